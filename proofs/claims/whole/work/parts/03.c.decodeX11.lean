theorem dX11_init_0 : decode cX11_init 0 = .ok (.aload_n 0, 1) := by decide +kernel
theorem dX11_init_1 : decode cX11_init 1 = .ok (.invokespecial 1, 3) := by decide +kernel
theorem dX11_init_4 : decode cX11_init 4 = .ok (.aload_n 0, 1) := by decide +kernel
theorem dX11_init_5 : decode cX11_init 5 = .ok (.sipush 3668, 3) := by decide +kernel
theorem dX11_init_8 : decode cX11_init 8 = .ok (.newarray .int, 2) := by decide +kernel
theorem dX11_init_10 : decode cX11_init 10 = .ok (.putfield 7, 3) := by decide +kernel
theorem dX11_init_13 : decode cX11_init 13 = .ok (.aload_n 0, 1) := by decide +kernel
theorem dX11_init_14 : decode cX11_init 14 = .ok (.bipush 126, 2) := by decide +kernel
theorem dX11_init_16 : decode cX11_init 16 = .ok (.newarray .long, 2) := by decide +kernel
theorem dX11_init_18 : decode cX11_init 18 = .ok (.putfield 13, 3) := by decide +kernel
theorem dX11_init_21 : decode cX11_init 21 = .ok (.aload_n 0, 1) := by decide +kernel
theorem dX11_init_22 : decode cX11_init 22 = .ok (.lconst 1, 1) := by decide +kernel
theorem dX11_init_23 : decode cX11_init 23 = .ok (.putfield 17, 3) := by decide +kernel
theorem dX11_init_26 : decode cX11_init 26 = .ok (.aload_n 0, 1) := by decide +kernel
theorem dX11_init_27 : decode cX11_init 27 = .ok (.iconst 4, 1) := by decide +kernel
theorem dX11_init_28 : decode cX11_init 28 = .ok (.newarray .int, 2) := by decide +kernel
theorem dX11_init_30 : decode cX11_init 30 = .ok (.putfield 21, 3) := by decide +kernel
theorem dX11_init_33 : decode cX11_init 33 = .ok (.aload_n 0, 1) := by decide +kernel
theorem dX11_init_34 : decode cX11_init 34 = .ok (.iconst 4, 1) := by decide +kernel
theorem dX11_init_35 : decode cX11_init 35 = .ok (.newarray .int, 2) := by decide +kernel
theorem dX11_init_37 : decode cX11_init 37 = .ok (.dup, 1) := by decide +kernel
theorem dX11_init_38 : decode cX11_init 38 = .ok (.iconst 0, 1) := by decide +kernel
theorem dX11_init_39 : decode cX11_init 39 = .ok (.iconst (-1), 1) := by decide +kernel
theorem dX11_init_40 : decode cX11_init 40 = .ok (.iastore, 1) := by decide +kernel
theorem dX11_init_41 : decode cX11_init 41 = .ok (.dup, 1) := by decide +kernel
theorem dX11_init_42 : decode cX11_init 42 = .ok (.iconst 1, 1) := by decide +kernel
theorem dX11_init_43 : decode cX11_init 43 = .ok (.iconst (-1), 1) := by decide +kernel
theorem dX11_init_44 : decode cX11_init 44 = .ok (.iastore, 1) := by decide +kernel
theorem dX11_init_45 : decode cX11_init 45 = .ok (.dup, 1) := by decide +kernel
theorem dX11_init_46 : decode cX11_init 46 = .ok (.iconst 2, 1) := by decide +kernel
theorem dX11_init_47 : decode cX11_init 47 = .ok (.iconst (-1), 1) := by decide +kernel
theorem dX11_init_48 : decode cX11_init 48 = .ok (.iastore, 1) := by decide +kernel
theorem dX11_init_49 : decode cX11_init 49 = .ok (.dup, 1) := by decide +kernel
theorem dX11_init_50 : decode cX11_init 50 = .ok (.iconst 3, 1) := by decide +kernel
theorem dX11_init_51 : decode cX11_init 51 = .ok (.iconst (-1), 1) := by decide +kernel
theorem dX11_init_52 : decode cX11_init 52 = .ok (.iastore, 1) := by decide +kernel
theorem dX11_init_53 : decode cX11_init 53 = .ok (.putfield 24, 3) := by decide +kernel
theorem dX11_init_56 : decode cX11_init 56 = .ok (.aload_n 0, 1) := by decide +kernel
theorem dX11_init_57 : decode cX11_init 57 = .ok (.sipush 240, 3) := by decide +kernel
theorem dX11_init_60 : decode cX11_init 60 = .ok (.newarray .long, 2) := by decide +kernel
theorem dX11_init_62 : decode cX11_init 62 = .ok (.putfield 27, 3) := by decide +kernel
theorem dX11_init_65 : decode cX11_init 65 = .ok (.aload_n 0, 1) := by decide +kernel
theorem dX11_init_66 : decode cX11_init 66 = .ok (.sipush 900, 3) := by decide +kernel
theorem dX11_init_69 : decode cX11_init 69 = .ok (.newarray .byte, 2) := by decide +kernel
theorem dX11_init_71 : decode cX11_init 71 = .ok (.putfield 30, 3) := by decide +kernel
theorem dX11_init_74 : decode cX11_init 74 = .ok (.aload_n 0, 1) := by decide +kernel
theorem dX11_init_75 : decode cX11_init 75 = .ok (.sipush 900, 3) := by decide +kernel
theorem dX11_init_78 : decode cX11_init 78 = .ok (.newarray .byte, 2) := by decide +kernel
theorem dX11_init_80 : decode cX11_init 80 = .ok (.putfield 34, 3) := by decide +kernel
theorem dX11_init_83 : decode cX11_init 83 = .ok (.aload_n 0, 1) := by decide +kernel
theorem dX11_init_84 : decode cX11_init 84 = .ok (.iconst (-1), 1) := by decide +kernel
theorem dX11_init_85 : decode cX11_init 85 = .ok (.putfield 37, 3) := by decide +kernel
theorem dX11_init_88 : decode cX11_init 88 = .ok (.aload_n 0, 1) := by decide +kernel
theorem dX11_init_89 : decode cX11_init 89 = .ok (.iconst (-1), 1) := by decide +kernel
theorem dX11_init_90 : decode cX11_init 90 = .ok (.putfield 41, 3) := by decide +kernel
theorem dX11_init_93 : decode cX11_init 93 = .ok (.aload_n 0, 1) := by decide +kernel
theorem dX11_init_94 : decode cX11_init 94 = .ok (.iconst 3, 1) := by decide +kernel
theorem dX11_init_95 : decode cX11_init 95 = .ok (.newarray .int, 2) := by decide +kernel
theorem dX11_init_97 : decode cX11_init 97 = .ok (.putfield 44, 3) := by decide +kernel
theorem dX11_init_100 : decode cX11_init 100 = .ok (.aload_n 0, 1) := by decide +kernel
theorem dX11_init_101 : decode cX11_init 101 = .ok (.iconst (-1), 1) := by decide +kernel
theorem dX11_init_102 : decode cX11_init 102 = .ok (.putfield 47, 3) := by decide +kernel
theorem dX11_init_105 : decode cX11_init 105 = .ok (.aload_n 0, 1) := by decide +kernel
theorem dX11_init_106 : decode cX11_init 106 = .ok (.iconst (-1), 1) := by decide +kernel
theorem dX11_init_107 : decode cX11_init 107 = .ok (.putfield 50, 3) := by decide +kernel
theorem dX11_init_110 : decode cX11_init 110 = .ok (.aload_n 0, 1) := by decide +kernel
theorem dX11_init_111 : decode cX11_init 111 = .ok (.bipush 10, 2) := by decide +kernel
theorem dX11_init_113 : decode cX11_init 113 = .ok (.newarray .int, 2) := by decide +kernel
theorem dX11_init_115 : decode cX11_init 115 = .ok (.putfield 53, 3) := by decide +kernel
theorem dX11_init_118 : decode cX11_init 118 = .ok (.aload_n 0, 1) := by decide +kernel
theorem dX11_init_119 : decode cX11_init 119 = .ok (.bipush 10, 2) := by decide +kernel
theorem dX11_init_121 : decode cX11_init 121 = .ok (.newarray .int, 2) := by decide +kernel
theorem dX11_init_123 : decode cX11_init 123 = .ok (.putfield 56, 3) := by decide +kernel
theorem dX11_init_126 : decode cX11_init 126 = .ok (.aload_n 0, 1) := by decide +kernel
theorem dX11_init_127 : decode cX11_init 127 = .ok (.iconst 4, 1) := by decide +kernel
theorem dX11_init_128 : decode cX11_init 128 = .ok (.newarray .int, 2) := by decide +kernel
theorem dX11_init_130 : decode cX11_init 130 = .ok (.putfield 59, 3) := by decide +kernel
theorem dX11_init_133 : decode cX11_init 133 = .ok (.aload_n 0, 1) := by decide +kernel
theorem dX11_init_134 : decode cX11_init 134 = .ok (.iconst 4, 1) := by decide +kernel
theorem dX11_init_135 : decode cX11_init 135 = .ok (.newarray .int, 2) := by decide +kernel
theorem dX11_init_137 : decode cX11_init 137 = .ok (.putfield 62, 3) := by decide +kernel
theorem dX11_init_140 : decode cX11_init 140 = .ok (.aload_n 0, 1) := by decide +kernel
theorem dX11_init_141 : decode cX11_init 141 = .ok (.bipush 7, 2) := by decide +kernel
theorem dX11_init_143 : decode cX11_init 143 = .ok (.newarray .int, 2) := by decide +kernel
theorem dX11_init_145 : decode cX11_init 145 = .ok (.putfield 65, 3) := by decide +kernel
theorem dX11_init_148 : decode cX11_init 148 = .ok (.aload_n 0, 1) := by decide +kernel
theorem dX11_init_149 : decode cX11_init 149 = .ok (.bipush 10, 2) := by decide +kernel
theorem dX11_init_151 : decode cX11_init 151 = .ok (.newarray .int, 2) := by decide +kernel
theorem dX11_init_153 : decode cX11_init 153 = .ok (.putfield 68, 3) := by decide +kernel
theorem dX11_init_156 : decode cX11_init 156 = .ok (.aload_n 0, 1) := by decide +kernel
theorem dX11_init_157 : decode cX11_init 157 = .ok (.bipush 80, 2) := by decide +kernel
theorem dX11_init_159 : decode cX11_init 159 = .ok (.newarray .int, 2) := by decide +kernel
theorem dX11_init_161 : decode cX11_init 161 = .ok (.putfield 71, 3) := by decide +kernel
theorem dX11_init_164 : decode cX11_init 164 = .ok (.aload_n 0, 1) := by decide +kernel
theorem dX11_init_165 : decode cX11_init 165 = .ok (.iconst 5, 1) := by decide +kernel
theorem dX11_init_166 : decode cX11_init 166 = .ok (.newarray .int, 2) := by decide +kernel
theorem dX11_init_168 : decode cX11_init 168 = .ok (.putfield 74, 3) := by decide +kernel
theorem dX11_init_171 : decode cX11_init 171 = .ok (.aload_n 0, 1) := by decide +kernel
theorem dX11_init_172 : decode cX11_init 172 = .ok (.iconst 5, 1) := by decide +kernel
theorem dX11_init_173 : decode cX11_init 173 = .ok (.newarray .int, 2) := by decide +kernel
theorem dX11_init_175 : decode cX11_init 175 = .ok (.putfield 77, 3) := by decide +kernel
theorem dX11_init_178 : decode cX11_init 178 = .ok (.aload_n 0, 1) := by decide +kernel
theorem dX11_init_179 : decode cX11_init 179 = .ok (.iconst 0, 1) := by decide +kernel
theorem dX11_init_180 : decode cX11_init 180 = .ok (.invokevirtual 80, 3) := by decide +kernel
theorem dX11_init_183 : decode cX11_init 183 = .ok (.return_, 1) := by decide +kernel
theorem dX11_plain_0 : decode cX11_plain 0 = .ok (.iconst 0, 1) := by decide +kernel
theorem dX11_plain_1 : decode cX11_plain 1 = .ok (.istore_n 2, 1) := by decide +kernel
theorem dX11_plain_2 : decode cX11_plain 2 = .ok (.iload_n 2, 1) := by decide +kernel
theorem dX11_plain_3 : decode cX11_plain 3 = .ok (.sipush 524, 3) := by decide +kernel
theorem dX11_plain_6 : decode cX11_plain 6 = .ok (.if_icmp .ge 18, 3) := by decide +kernel
theorem dX11_plain_9 : decode cX11_plain 9 = .ok (.aload_n 0, 1) := by decide +kernel
theorem dX11_plain_10 : decode cX11_plain 10 = .ok (.getfield 7, 3) := by decide +kernel
theorem dX11_plain_13 : decode cX11_plain 13 = .ok (.iload_n 1, 1) := by decide +kernel
theorem dX11_plain_14 : decode cX11_plain 14 = .ok (.iload_n 2, 1) := by decide +kernel
theorem dX11_plain_15 : decode cX11_plain 15 = .ok (.iadd, 1) := by decide +kernel
theorem dX11_plain_16 : decode cX11_plain 16 = .ok (.iconst 0, 1) := by decide +kernel
theorem dX11_plain_17 : decode cX11_plain 17 = .ok (.iastore, 1) := by decide +kernel
theorem dX11_plain_18 : decode cX11_plain 18 = .ok (.iinc 2 1, 3) := by decide +kernel
theorem dX11_plain_21 : decode cX11_plain 21 = .ok (.goto (-19), 3) := by decide +kernel
theorem dX11_plain_24 : decode cX11_plain 24 = .ok (.iconst 0, 1) := by decide +kernel
theorem dX11_plain_25 : decode cX11_plain 25 = .ok (.istore_n 2, 1) := by decide +kernel
theorem dX11_plain_26 : decode cX11_plain 26 = .ok (.iload_n 2, 1) := by decide +kernel
theorem dX11_plain_27 : decode cX11_plain 27 = .ok (.bipush 12, 2) := by decide +kernel
theorem dX11_plain_29 : decode cX11_plain 29 = .ok (.if_icmp .ge 23, 3) := by decide +kernel
theorem dX11_plain_32 : decode cX11_plain 32 = .ok (.aload_n 0, 1) := by decide +kernel
theorem dX11_plain_33 : decode cX11_plain 33 = .ok (.getfield 7, 3) := by decide +kernel
theorem dX11_plain_36 : decode cX11_plain 36 = .ok (.iload_n 1, 1) := by decide +kernel
theorem dX11_plain_37 : decode cX11_plain 37 = .ok (.sipush 135, 3) := by decide +kernel
theorem dX11_plain_40 : decode cX11_plain 40 = .ok (.iadd, 1) := by decide +kernel
theorem dX11_plain_41 : decode cX11_plain 41 = .ok (.iload_n 2, 1) := by decide +kernel
theorem dX11_plain_42 : decode cX11_plain 42 = .ok (.iadd, 1) := by decide +kernel
theorem dX11_plain_43 : decode cX11_plain 43 = .ok (.bipush 10, 2) := by decide +kernel
theorem dX11_plain_45 : decode cX11_plain 45 = .ok (.iastore, 1) := by decide +kernel
theorem dX11_plain_46 : decode cX11_plain 46 = .ok (.iinc 2 1, 3) := by decide +kernel
theorem dX11_plain_49 : decode cX11_plain 49 = .ok (.goto (-23), 3) := by decide +kernel
theorem dX11_plain_52 : decode cX11_plain 52 = .ok (.aload_n 0, 1) := by decide +kernel
theorem dX11_plain_53 : decode cX11_plain 53 = .ok (.getfield 7, 3) := by decide +kernel
theorem dX11_plain_56 : decode cX11_plain 56 = .ok (.iload_n 1, 1) := by decide +kernel
theorem dX11_plain_57 : decode cX11_plain 57 = .ok (.iconst 4, 1) := by decide +kernel
theorem dX11_plain_58 : decode cX11_plain 58 = .ok (.iadd, 1) := by decide +kernel
theorem dX11_plain_59 : decode cX11_plain 59 = .ok (.iconst (-1), 1) := by decide +kernel
theorem dX11_plain_60 : decode cX11_plain 60 = .ok (.iastore, 1) := by decide +kernel
theorem dX11_plain_61 : decode cX11_plain 61 = .ok (.return_, 1) := by decide +kernel
theorem dX11_status_0 : decode cX11_status 0 = .ok (.aload_n 0, 1) := by decide +kernel
theorem dX11_status_1 : decode cX11_status 1 = .ok (.getfield 84, 3) := by decide +kernel
theorem dX11_status_4 : decode cX11_status 4 = .ok (.ireturn, 1) := by decide +kernel
theorem dX11_top_0 : decode cX11_top 0 = .ok (.aload_n 0, 1) := by decide +kernel
theorem dX11_top_1 : decode cX11_top 1 = .ok (.getfield 87, 3) := by decide +kernel
theorem dX11_top_4 : decode cX11_top 4 = .ok (.lreturn, 1) := by decide +kernel
theorem dX11_bottom_0 : decode cX11_bottom 0 = .ok (.aload_n 0, 1) := by decide +kernel
theorem dX11_bottom_1 : decode cX11_bottom 1 = .ok (.getfield 17, 3) := by decide +kernel
theorem dX11_bottom_4 : decode cX11_bottom 4 = .ok (.lreturn, 1) := by decide +kernel
theorem dX11_is_0 : decode cX11_is 0 = .ok (.aload_n 0, 1) := by decide +kernel
theorem dX11_is_1 : decode cX11_is 1 = .ok (.iload_n 1, 1) := by decide +kernel
theorem dX11_is_2 : decode cX11_is 2 = .ok (.putfield 84, 3) := by decide +kernel
theorem dX11_is_5 : decode cX11_is 5 = .ok (.iload_n 1, 1) := by decide +kernel
theorem dX11_is_6 : decode cX11_is 6 = .ok (.ifCond .ne 7, 3) := by decide +kernel
theorem dX11_is_9 : decode cX11_is 9 = .ok (.iconst 1, 1) := by decide +kernel
theorem dX11_is_10 : decode cX11_is 10 = .ok (.goto 4, 3) := by decide +kernel
theorem dX11_is_13 : decode cX11_is 13 = .ok (.iconst 0, 1) := by decide +kernel
theorem dX11_is_14 : decode cX11_is 14 = .ok (.ireturn, 1) := by decide +kernel
theorem dX11_refuse_0 : decode cX11_refuse 0 = .ok (.aload_n 0, 1) := by decide +kernel
theorem dX11_refuse_1 : decode cX11_refuse 1 = .ok (.iload_n 1, 1) := by decide +kernel
theorem dX11_refuse_2 : decode cX11_refuse 2 = .ok (.putfield 84, 3) := by decide +kernel
theorem dX11_refuse_5 : decode cX11_refuse 5 = .ok (.iconst (-1), 1) := by decide +kernel
theorem dX11_refuse_6 : decode cX11_refuse 6 = .ok (.ireturn, 1) := by decide +kernel
theorem dX11_gives_0 : decode cX11_gives 0 = .ok (.aload_n 0, 1) := by decide +kernel
theorem dX11_gives_1 : decode cX11_gives 1 = .ok (.iconst 0, 1) := by decide +kernel
theorem dX11_gives_2 : decode cX11_gives 2 = .ok (.putfield 84, 3) := by decide +kernel
theorem dX11_gives_5 : decode cX11_gives 5 = .ok (.iload_n 1, 1) := by decide +kernel
theorem dX11_gives_6 : decode cX11_gives 6 = .ok (.ireturn, 1) := by decide +kernel
theorem dX11_orNone_0 : decode cX11_orNone 0 = .ok (.iload_n 1, 1) := by decide +kernel
theorem dX11_orNone_1 : decode cX11_orNone 1 = .ok (.iconst (-1), 1) := by decide +kernel
theorem dX11_orNone_2 : decode cX11_orNone 2 = .ok (.if_icmp .ne 12, 3) := by decide +kernel
theorem dX11_orNone_5 : decode cX11_orNone 5 = .ok (.aload_n 0, 1) := by decide +kernel
theorem dX11_orNone_6 : decode cX11_orNone 6 = .ok (.bipush 6, 2) := by decide +kernel
theorem dX11_orNone_8 : decode cX11_orNone 8 = .ok (.invokevirtual 90, 3) := by decide +kernel
theorem dX11_orNone_11 : decode cX11_orNone 11 = .ok (.goto 8, 3) := by decide +kernel
theorem dX11_orNone_14 : decode cX11_orNone 14 = .ok (.aload_n 0, 1) := by decide +kernel
theorem dX11_orNone_15 : decode cX11_orNone 15 = .ok (.iload_n 1, 1) := by decide +kernel
theorem dX11_orNone_16 : decode cX11_orNone 16 = .ok (.invokevirtual 94, 3) := by decide +kernel
theorem dX11_orNone_19 : decode cX11_orNone 19 = .ok (.ireturn, 1) := by decide +kernel
theorem dX11_tellsBy_0 : decode cX11_tellsBy 0 = .ok (.lload_n 1, 1) := by decide +kernel
theorem dX11_tellsBy_1 : decode cX11_tellsBy 1 = .ok (.invokestatic 97, 3) := by decide +kernel
theorem dX11_tellsBy_4 : decode cX11_tellsBy 4 = .ok (.lstore 5, 2) := by decide +kernel
theorem dX11_tellsBy_6 : decode cX11_tellsBy 6 = .ok (.lload_n 3, 1) := by decide +kernel
theorem dX11_tellsBy_7 : decode cX11_tellsBy 7 = .ok (.lstore 7, 2) := by decide +kernel
theorem dX11_tellsBy_9 : decode cX11_tellsBy 9 = .ok (.lload 7, 2) := by decide +kernel
theorem dX11_tellsBy_11 : decode cX11_tellsBy 11 = .ok (.lconst 0, 1) := by decide +kernel
theorem dX11_tellsBy_12 : decode cX11_tellsBy 12 = .ok (.lcmp, 1) := by decide +kernel
theorem dX11_tellsBy_13 : decode cX11_tellsBy 13 = .ok (.ifCond .eq 21, 3) := by decide +kernel
theorem dX11_tellsBy_16 : decode cX11_tellsBy 16 = .ok (.lload 5, 2) := by decide +kernel
theorem dX11_tellsBy_18 : decode cX11_tellsBy 18 = .ok (.lload 7, 2) := by decide +kernel
theorem dX11_tellsBy_20 : decode cX11_tellsBy 20 = .ok (.lrem, 1) := by decide +kernel
theorem dX11_tellsBy_21 : decode cX11_tellsBy 21 = .ok (.lstore 9, 2) := by decide +kernel
theorem dX11_tellsBy_23 : decode cX11_tellsBy 23 = .ok (.lload 7, 2) := by decide +kernel
theorem dX11_tellsBy_25 : decode cX11_tellsBy 25 = .ok (.lstore 5, 2) := by decide +kernel
theorem dX11_tellsBy_27 : decode cX11_tellsBy 27 = .ok (.lload 9, 2) := by decide +kernel
theorem dX11_tellsBy_29 : decode cX11_tellsBy 29 = .ok (.lstore 7, 2) := by decide +kernel
theorem dX11_tellsBy_31 : decode cX11_tellsBy 31 = .ok (.goto (-22), 3) := by decide +kernel
theorem dX11_tellsBy_34 : decode cX11_tellsBy 34 = .ok (.aload_n 0, 1) := by decide +kernel
theorem dX11_tellsBy_35 : decode cX11_tellsBy 35 = .ok (.lload_n 1, 1) := by decide +kernel
theorem dX11_tellsBy_36 : decode cX11_tellsBy 36 = .ok (.lload 5, 2) := by decide +kernel
theorem dX11_tellsBy_38 : decode cX11_tellsBy 38 = .ok (.ldiv, 1) := by decide +kernel
theorem dX11_tellsBy_39 : decode cX11_tellsBy 39 = .ok (.putfield 87, 3) := by decide +kernel
theorem dX11_tellsBy_42 : decode cX11_tellsBy 42 = .ok (.aload_n 0, 1) := by decide +kernel
theorem dX11_tellsBy_43 : decode cX11_tellsBy 43 = .ok (.lload_n 3, 1) := by decide +kernel
theorem dX11_tellsBy_44 : decode cX11_tellsBy 44 = .ok (.lload 5, 2) := by decide +kernel
theorem dX11_tellsBy_46 : decode cX11_tellsBy 46 = .ok (.ldiv, 1) := by decide +kernel
theorem dX11_tellsBy_47 : decode cX11_tellsBy 47 = .ok (.putfield 17, 3) := by decide +kernel
theorem dX11_tellsBy_50 : decode cX11_tellsBy 50 = .ok (.aload_n 0, 1) := by decide +kernel
theorem dX11_tellsBy_51 : decode cX11_tellsBy 51 = .ok (.iconst 0, 1) := by decide +kernel
theorem dX11_tellsBy_52 : decode cX11_tellsBy 52 = .ok (.invokevirtual 103, 3) := by decide +kernel
theorem dX11_tellsBy_55 : decode cX11_tellsBy 55 = .ok (.ireturn, 1) := by decide +kernel
theorem dX11_isTray_0 : decode cX11_isTray 0 = .ok (.iload_n 0, 1) := by decide +kernel
theorem dX11_isTray_1 : decode cX11_isTray 1 = .ok (.ifCond .lt 12, 3) := by decide +kernel
theorem dX11_isTray_4 : decode cX11_isTray 4 = .ok (.iload_n 0, 1) := by decide +kernel
theorem dX11_isTray_5 : decode cX11_isTray 5 = .ok (.iconst 4, 1) := by decide +kernel
theorem dX11_isTray_6 : decode cX11_isTray 6 = .ok (.if_icmp .ge 7, 3) := by decide +kernel
theorem dX11_isTray_9 : decode cX11_isTray 9 = .ok (.iconst 1, 1) := by decide +kernel
theorem dX11_isTray_10 : decode cX11_isTray 10 = .ok (.goto 4, 3) := by decide +kernel
theorem dX11_isTray_13 : decode cX11_isTray 13 = .ok (.iconst 0, 1) := by decide +kernel
theorem dX11_isTray_14 : decode cX11_isTray 14 = .ok (.ireturn, 1) := by decide +kernel
theorem dX11_cut_0 : decode cX11_cut 0 = .ok (.iload_n 2, 1) := by decide +kernel
theorem dX11_cut_1 : decode cX11_cut 1 = .ok (.ifCond .ne 10, 3) := by decide +kernel
theorem dX11_cut_4 : decode cX11_cut 4 = .ok (.lload_n 0, 1) := by decide +kernel
theorem dX11_cut_5 : decode cX11_cut 5 = .ok (.l2i, 1) := by decide +kernel
theorem dX11_cut_6 : decode cX11_cut 6 = .ok (.i2b, 1) := by decide +kernel
theorem dX11_cut_7 : decode cX11_cut 7 = .ok (.i2l, 1) := by decide +kernel
theorem dX11_cut_8 : decode cX11_cut 8 = .ok (.goto 27, 3) := by decide +kernel
theorem dX11_cut_11 : decode cX11_cut 11 = .ok (.iload_n 2, 1) := by decide +kernel
theorem dX11_cut_12 : decode cX11_cut 12 = .ok (.iconst 1, 1) := by decide +kernel
theorem dX11_cut_13 : decode cX11_cut 13 = .ok (.if_icmp .ne 10, 3) := by decide +kernel
theorem dX11_cut_16 : decode cX11_cut 16 = .ok (.lload_n 0, 1) := by decide +kernel
theorem dX11_cut_17 : decode cX11_cut 17 = .ok (.l2i, 1) := by decide +kernel
theorem dX11_cut_18 : decode cX11_cut 18 = .ok (.i2s, 1) := by decide +kernel
theorem dX11_cut_19 : decode cX11_cut 19 = .ok (.i2l, 1) := by decide +kernel
theorem dX11_cut_20 : decode cX11_cut 20 = .ok (.goto 15, 3) := by decide +kernel
theorem dX11_cut_23 : decode cX11_cut 23 = .ok (.iload_n 2, 1) := by decide +kernel
theorem dX11_cut_24 : decode cX11_cut 24 = .ok (.iconst 2, 1) := by decide +kernel
theorem dX11_cut_25 : decode cX11_cut 25 = .ok (.if_icmp .ne 9, 3) := by decide +kernel
theorem dX11_cut_28 : decode cX11_cut 28 = .ok (.lload_n 0, 1) := by decide +kernel
theorem dX11_cut_29 : decode cX11_cut 29 = .ok (.l2i, 1) := by decide +kernel
theorem dX11_cut_30 : decode cX11_cut 30 = .ok (.i2l, 1) := by decide +kernel
theorem dX11_cut_31 : decode cX11_cut 31 = .ok (.goto 4, 3) := by decide +kernel
theorem dX11_cut_34 : decode cX11_cut 34 = .ok (.lload_n 0, 1) := by decide +kernel
theorem dX11_cut_35 : decode cX11_cut 35 = .ok (.lreturn, 1) := by decide +kernel
theorem dX11_tray_0 : decode cX11_tray 0 = .ok (.iload_n 1, 1) := by decide +kernel
theorem dX11_tray_1 : decode cX11_tray 1 = .ok (.invokestatic 107, 3) := by decide +kernel
theorem dX11_tray_4 : decode cX11_tray 4 = .ok (.ifCond .eq 22, 3) := by decide +kernel
theorem dX11_tray_7 : decode cX11_tray 7 = .ok (.iload_n 2, 1) := by decide +kernel
theorem dX11_tray_8 : decode cX11_tray 8 = .ok (.ifCond .lt 18, 3) := by decide +kernel
theorem dX11_tray_11 : decode cX11_tray 11 = .ok (.iload_n 2, 1) := by decide +kernel
theorem dX11_tray_12 : decode cX11_tray 12 = .ok (.iconst 3, 1) := by decide +kernel
theorem dX11_tray_13 : decode cX11_tray 13 = .ok (.if_icmp .gt 13, 3) := by decide +kernel
theorem dX11_tray_16 : decode cX11_tray 16 = .ok (.iload_n 3, 1) := by decide +kernel
theorem dX11_tray_17 : decode cX11_tray 17 = .ok (.ifCond .lt 9, 3) := by decide +kernel
theorem dX11_tray_20 : decode cX11_tray 20 = .ok (.iload_n 3, 1) := by decide +kernel
theorem dX11_tray_21 : decode cX11_tray 21 = .ok (.bipush 60, 2) := by decide +kernel
theorem dX11_tray_23 : decode cX11_tray 23 = .ok (.if_icmp .le 9, 3) := by decide +kernel
theorem dX11_tray_26 : decode cX11_tray 26 = .ok (.aload_n 0, 1) := by decide +kernel
theorem dX11_tray_27 : decode cX11_tray 27 = .ok (.iconst 1, 1) := by decide +kernel
theorem dX11_tray_28 : decode cX11_tray 28 = .ok (.invokevirtual 103, 3) := by decide +kernel
theorem dX11_tray_31 : decode cX11_tray 31 = .ok (.ireturn, 1) := by decide +kernel
theorem dX11_tray_32 : decode cX11_tray 32 = .ok (.aload_n 0, 1) := by decide +kernel
theorem dX11_tray_33 : decode cX11_tray 33 = .ok (.getfield 21, 3) := by decide +kernel
theorem dX11_tray_36 : decode cX11_tray 36 = .ok (.iload_n 1, 1) := by decide +kernel
theorem dX11_tray_37 : decode cX11_tray 37 = .ok (.iload_n 2, 1) := by decide +kernel
theorem dX11_tray_38 : decode cX11_tray 38 = .ok (.iastore, 1) := by decide +kernel
theorem dX11_tray_39 : decode cX11_tray 39 = .ok (.aload_n 0, 1) := by decide +kernel
theorem dX11_tray_40 : decode cX11_tray 40 = .ok (.getfield 24, 3) := by decide +kernel
theorem dX11_tray_43 : decode cX11_tray 43 = .ok (.iload_n 1, 1) := by decide +kernel
theorem dX11_tray_44 : decode cX11_tray 44 = .ok (.iload_n 3, 1) := by decide +kernel
theorem dX11_tray_45 : decode cX11_tray 45 = .ok (.iastore, 1) := by decide +kernel
theorem dX11_tray_46 : decode cX11_tray 46 = .ok (.iconst 0, 1) := by decide +kernel
theorem dX11_tray_47 : decode cX11_tray 47 = .ok (.istore 4, 2) := by decide +kernel
theorem dX11_tray_49 : decode cX11_tray 49 = .ok (.iload 4, 2) := by decide +kernel
theorem dX11_tray_51 : decode cX11_tray 51 = .ok (.iload_n 3, 1) := by decide +kernel
theorem dX11_tray_52 : decode cX11_tray 52 = .ok (.if_icmp .ge 22, 3) := by decide +kernel
theorem dX11_tray_55 : decode cX11_tray 55 = .ok (.aload_n 0, 1) := by decide +kernel
theorem dX11_tray_56 : decode cX11_tray 56 = .ok (.getfield 27, 3) := by decide +kernel
theorem dX11_tray_59 : decode cX11_tray 59 = .ok (.bipush 60, 2) := by decide +kernel
theorem dX11_tray_61 : decode cX11_tray 61 = .ok (.iload_n 1, 1) := by decide +kernel
theorem dX11_tray_62 : decode cX11_tray 62 = .ok (.imul, 1) := by decide +kernel
theorem dX11_tray_63 : decode cX11_tray 63 = .ok (.iload 4, 2) := by decide +kernel
theorem dX11_tray_65 : decode cX11_tray 65 = .ok (.iadd, 1) := by decide +kernel
theorem dX11_tray_66 : decode cX11_tray 66 = .ok (.lconst 0, 1) := by decide +kernel
theorem dX11_tray_67 : decode cX11_tray 67 = .ok (.lastore, 1) := by decide +kernel
theorem dX11_tray_68 : decode cX11_tray 68 = .ok (.iinc 4 1, 3) := by decide +kernel
theorem dX11_tray_71 : decode cX11_tray 71 = .ok (.goto (-22), 3) := by decide +kernel
theorem dX11_tray_74 : decode cX11_tray 74 = .ok (.aload_n 0, 1) := by decide +kernel
theorem dX11_tray_75 : decode cX11_tray 75 = .ok (.iconst 0, 1) := by decide +kernel
theorem dX11_tray_76 : decode cX11_tray 76 = .ok (.invokevirtual 103, 3) := by decide +kernel
theorem dX11_tray_79 : decode cX11_tray 79 = .ok (.ireturn, 1) := by decide +kernel
theorem dX11_wrongPlace_0 : decode cX11_wrongPlace 0 = .ok (.iload_n 1, 1) := by decide +kernel
theorem dX11_wrongPlace_1 : decode cX11_wrongPlace 1 = .ok (.invokestatic 107, 3) := by decide +kernel
theorem dX11_wrongPlace_4 : decode cX11_wrongPlace 4 = .ok (.ifCond .ne 7, 3) := by decide +kernel
theorem dX11_wrongPlace_7 : decode cX11_wrongPlace 7 = .ok (.iconst 1, 1) := by decide +kernel
theorem dX11_wrongPlace_8 : decode cX11_wrongPlace 8 = .ok (.goto 36, 3) := by decide +kernel
theorem dX11_wrongPlace_11 : decode cX11_wrongPlace 11 = .ok (.aload_n 0, 1) := by decide +kernel
theorem dX11_wrongPlace_12 : decode cX11_wrongPlace 12 = .ok (.getfield 24, 3) := by decide +kernel
theorem dX11_wrongPlace_15 : decode cX11_wrongPlace 15 = .ok (.iload_n 1, 1) := by decide +kernel
theorem dX11_wrongPlace_16 : decode cX11_wrongPlace 16 = .ok (.iaload, 1) := by decide +kernel
theorem dX11_wrongPlace_17 : decode cX11_wrongPlace 17 = .ok (.iconst (-1), 1) := by decide +kernel
theorem dX11_wrongPlace_18 : decode cX11_wrongPlace 18 = .ok (.if_icmp .ne 7, 3) := by decide +kernel
theorem dX11_wrongPlace_21 : decode cX11_wrongPlace 21 = .ok (.iconst 2, 1) := by decide +kernel
theorem dX11_wrongPlace_22 : decode cX11_wrongPlace 22 = .ok (.goto 22, 3) := by decide +kernel
theorem dX11_wrongPlace_25 : decode cX11_wrongPlace 25 = .ok (.iload_n 2, 1) := by decide +kernel
theorem dX11_wrongPlace_26 : decode cX11_wrongPlace 26 = .ok (.ifCond .lt 13, 3) := by decide +kernel
theorem dX11_wrongPlace_29 : decode cX11_wrongPlace 29 = .ok (.iload_n 2, 1) := by decide +kernel
theorem dX11_wrongPlace_30 : decode cX11_wrongPlace 30 = .ok (.aload_n 0, 1) := by decide +kernel
theorem dX11_wrongPlace_31 : decode cX11_wrongPlace 31 = .ok (.getfield 24, 3) := by decide +kernel
theorem dX11_wrongPlace_34 : decode cX11_wrongPlace 34 = .ok (.iload_n 1, 1) := by decide +kernel
theorem dX11_wrongPlace_35 : decode cX11_wrongPlace 35 = .ok (.iaload, 1) := by decide +kernel
theorem dX11_wrongPlace_36 : decode cX11_wrongPlace 36 = .ok (.if_icmp .lt 7, 3) := by decide +kernel
theorem dX11_wrongPlace_39 : decode cX11_wrongPlace 39 = .ok (.iconst 3, 1) := by decide +kernel
theorem dX11_wrongPlace_40 : decode cX11_wrongPlace 40 = .ok (.goto 4, 3) := by decide +kernel
theorem dX11_wrongPlace_43 : decode cX11_wrongPlace 43 = .ok (.iconst 0, 1) := by decide +kernel
theorem dX11_wrongPlace_44 : decode cX11_wrongPlace 44 = .ok (.ireturn, 1) := by decide +kernel
theorem dX11_write_0 : decode cX11_write 0 = .ok (.aload_n 0, 1) := by decide +kernel
theorem dX11_write_1 : decode cX11_write 1 = .ok (.iload_n 1, 1) := by decide +kernel
theorem dX11_write_2 : decode cX11_write 2 = .ok (.iload_n 2, 1) := by decide +kernel
theorem dX11_write_3 : decode cX11_write 3 = .ok (.invokevirtual 110, 3) := by decide +kernel
theorem dX11_write_6 : decode cX11_write 6 = .ok (.istore 5, 2) := by decide +kernel
theorem dX11_write_8 : decode cX11_write 8 = .ok (.iload 5, 2) := by decide +kernel
theorem dX11_write_10 : decode cX11_write 10 = .ok (.ifCond .ne 24, 3) := by decide +kernel
theorem dX11_write_13 : decode cX11_write 13 = .ok (.aload_n 0, 1) := by decide +kernel
theorem dX11_write_14 : decode cX11_write 14 = .ok (.getfield 27, 3) := by decide +kernel
theorem dX11_write_17 : decode cX11_write 17 = .ok (.bipush 60, 2) := by decide +kernel
theorem dX11_write_19 : decode cX11_write 19 = .ok (.iload_n 1, 1) := by decide +kernel
theorem dX11_write_20 : decode cX11_write 20 = .ok (.imul, 1) := by decide +kernel
theorem dX11_write_21 : decode cX11_write 21 = .ok (.iload_n 2, 1) := by decide +kernel
theorem dX11_write_22 : decode cX11_write 22 = .ok (.iadd, 1) := by decide +kernel
theorem dX11_write_23 : decode cX11_write 23 = .ok (.lload_n 3, 1) := by decide +kernel
theorem dX11_write_24 : decode cX11_write 24 = .ok (.aload_n 0, 1) := by decide +kernel
theorem dX11_write_25 : decode cX11_write 25 = .ok (.getfield 21, 3) := by decide +kernel
theorem dX11_write_28 : decode cX11_write 28 = .ok (.iload_n 1, 1) := by decide +kernel
theorem dX11_write_29 : decode cX11_write 29 = .ok (.iaload, 1) := by decide +kernel
theorem dX11_write_30 : decode cX11_write 30 = .ok (.invokestatic 114, 3) := by decide +kernel
theorem dX11_write_33 : decode cX11_write 33 = .ok (.lastore, 1) := by decide +kernel
theorem dX11_write_34 : decode cX11_write 34 = .ok (.aload_n 0, 1) := by decide +kernel
theorem dX11_write_35 : decode cX11_write 35 = .ok (.iload 5, 2) := by decide +kernel
theorem dX11_write_37 : decode cX11_write 37 = .ok (.invokevirtual 103, 3) := by decide +kernel
theorem dX11_write_40 : decode cX11_write 40 = .ok (.ireturn, 1) := by decide +kernel
theorem dX11_read_0 : decode cX11_read 0 = .ok (.aload_n 0, 1) := by decide +kernel
theorem dX11_read_1 : decode cX11_read 1 = .ok (.aload_n 0, 1) := by decide +kernel
theorem dX11_read_2 : decode cX11_read 2 = .ok (.iload_n 1, 1) := by decide +kernel
theorem dX11_read_3 : decode cX11_read 3 = .ok (.iload_n 2, 1) := by decide +kernel
theorem dX11_read_4 : decode cX11_read 4 = .ok (.invokevirtual 110, 3) := by decide +kernel
theorem dX11_read_7 : decode cX11_read 7 = .ok (.putfield 84, 3) := by decide +kernel
theorem dX11_read_10 : decode cX11_read 10 = .ok (.aload_n 0, 1) := by decide +kernel
theorem dX11_read_11 : decode cX11_read 11 = .ok (.getfield 84, 3) := by decide +kernel
theorem dX11_read_14 : decode cX11_read 14 = .ok (.ifCond .le 9, 3) := by decide +kernel
theorem dX11_read_17 : decode cX11_read 17 = .ok (.ldc2_w 118, 3) := by decide +kernel
theorem dX11_read_20 : decode cX11_read 20 = .ok (.goto 14, 3) := by decide +kernel
theorem dX11_read_23 : decode cX11_read 23 = .ok (.aload_n 0, 1) := by decide +kernel
theorem dX11_read_24 : decode cX11_read 24 = .ok (.getfield 27, 3) := by decide +kernel
theorem dX11_read_27 : decode cX11_read 27 = .ok (.bipush 60, 2) := by decide +kernel
theorem dX11_read_29 : decode cX11_read 29 = .ok (.iload_n 1, 1) := by decide +kernel
theorem dX11_read_30 : decode cX11_read 30 = .ok (.imul, 1) := by decide +kernel
theorem dX11_read_31 : decode cX11_read 31 = .ok (.iload_n 2, 1) := by decide +kernel
theorem dX11_read_32 : decode cX11_read 32 = .ok (.iadd, 1) := by decide +kernel
theorem dX11_read_33 : decode cX11_read 33 = .ok (.laload, 1) := by decide +kernel
theorem dX11_read_34 : decode cX11_read 34 = .ok (.lreturn, 1) := by decide +kernel
theorem dX11_pour_0 : decode cX11_pour 0 = .ok (.iload_n 1, 1) := by decide +kernel
theorem dX11_pour_1 : decode cX11_pour 1 = .ok (.invokestatic 107, 3) := by decide +kernel
theorem dX11_pour_4 : decode cX11_pour 4 = .ok (.ifCond .eq 24, 3) := by decide +kernel
theorem dX11_pour_7 : decode cX11_pour 7 = .ok (.iload_n 3, 1) := by decide +kernel
theorem dX11_pour_8 : decode cX11_pour 8 = .ok (.invokestatic 107, 3) := by decide +kernel
theorem dX11_pour_11 : decode cX11_pour 11 = .ok (.ifCond .eq 17, 3) := by decide +kernel
theorem dX11_pour_14 : decode cX11_pour 14 = .ok (.iload_n 2, 1) := by decide +kernel
theorem dX11_pour_15 : decode cX11_pour 15 = .ok (.ifCond .lt 13, 3) := by decide +kernel
theorem dX11_pour_18 : decode cX11_pour 18 = .ok (.iload 4, 2) := by decide +kernel
theorem dX11_pour_20 : decode cX11_pour 20 = .ok (.ifCond .lt 8, 3) := by decide +kernel
theorem dX11_pour_23 : decode cX11_pour 23 = .ok (.iload 5, 2) := by decide +kernel
theorem dX11_pour_25 : decode cX11_pour 25 = .ok (.ifCond .ge 9, 3) := by decide +kernel
theorem dX11_pour_28 : decode cX11_pour 28 = .ok (.aload_n 0, 1) := by decide +kernel
theorem dX11_pour_29 : decode cX11_pour 29 = .ok (.iconst 1, 1) := by decide +kernel
theorem dX11_pour_30 : decode cX11_pour 30 = .ok (.invokevirtual 103, 3) := by decide +kernel
theorem dX11_pour_33 : decode cX11_pour 33 = .ok (.ireturn, 1) := by decide +kernel
theorem dX11_pour_34 : decode cX11_pour 34 = .ok (.aload_n 0, 1) := by decide +kernel
theorem dX11_pour_35 : decode cX11_pour 35 = .ok (.getfield 24, 3) := by decide +kernel
theorem dX11_pour_38 : decode cX11_pour 38 = .ok (.iload_n 1, 1) := by decide +kernel
theorem dX11_pour_39 : decode cX11_pour 39 = .ok (.iaload, 1) := by decide +kernel
theorem dX11_pour_40 : decode cX11_pour 40 = .ok (.iconst (-1), 1) := by decide +kernel
theorem dX11_pour_41 : decode cX11_pour 41 = .ok (.if_icmp .eq 13, 3) := by decide +kernel
theorem dX11_pour_44 : decode cX11_pour 44 = .ok (.aload_n 0, 1) := by decide +kernel
theorem dX11_pour_45 : decode cX11_pour 45 = .ok (.getfield 24, 3) := by decide +kernel
theorem dX11_pour_48 : decode cX11_pour 48 = .ok (.iload_n 3, 1) := by decide +kernel
theorem dX11_pour_49 : decode cX11_pour 49 = .ok (.iaload, 1) := by decide +kernel
theorem dX11_pour_50 : decode cX11_pour 50 = .ok (.iconst (-1), 1) := by decide +kernel
theorem dX11_pour_51 : decode cX11_pour 51 = .ok (.if_icmp .ne 9, 3) := by decide +kernel
theorem dX11_pour_54 : decode cX11_pour 54 = .ok (.aload_n 0, 1) := by decide +kernel
theorem dX11_pour_55 : decode cX11_pour 55 = .ok (.iconst 2, 1) := by decide +kernel
theorem dX11_pour_56 : decode cX11_pour 56 = .ok (.invokevirtual 103, 3) := by decide +kernel
theorem dX11_pour_59 : decode cX11_pour 59 = .ok (.ireturn, 1) := by decide +kernel
theorem dX11_pour_60 : decode cX11_pour 60 = .ok (.aload_n 0, 1) := by decide +kernel
theorem dX11_pour_61 : decode cX11_pour 61 = .ok (.getfield 21, 3) := by decide +kernel
theorem dX11_pour_64 : decode cX11_pour 64 = .ok (.iload_n 1, 1) := by decide +kernel
theorem dX11_pour_65 : decode cX11_pour 65 = .ok (.iaload, 1) := by decide +kernel
theorem dX11_pour_66 : decode cX11_pour 66 = .ok (.aload_n 0, 1) := by decide +kernel
theorem dX11_pour_67 : decode cX11_pour 67 = .ok (.getfield 21, 3) := by decide +kernel
theorem dX11_pour_70 : decode cX11_pour 70 = .ok (.iload_n 3, 1) := by decide +kernel
theorem dX11_pour_71 : decode cX11_pour 71 = .ok (.iaload, 1) := by decide +kernel
theorem dX11_pour_72 : decode cX11_pour 72 = .ok (.if_icmp .eq 10, 3) := by decide +kernel
theorem dX11_pour_75 : decode cX11_pour 75 = .ok (.aload_n 0, 1) := by decide +kernel
theorem dX11_pour_76 : decode cX11_pour 76 = .ok (.bipush 8, 2) := by decide +kernel
theorem dX11_pour_78 : decode cX11_pour 78 = .ok (.invokevirtual 103, 3) := by decide +kernel
theorem dX11_pour_81 : decode cX11_pour 81 = .ok (.ireturn, 1) := by decide +kernel
theorem dX11_pour_82 : decode cX11_pour 82 = .ok (.iload 5, 2) := by decide +kernel
theorem dX11_pour_84 : decode cX11_pour 84 = .ok (.aload_n 0, 1) := by decide +kernel
theorem dX11_pour_85 : decode cX11_pour 85 = .ok (.getfield 24, 3) := by decide +kernel
theorem dX11_pour_88 : decode cX11_pour 88 = .ok (.iload_n 1, 1) := by decide +kernel
theorem dX11_pour_89 : decode cX11_pour 89 = .ok (.iaload, 1) := by decide +kernel
theorem dX11_pour_90 : decode cX11_pour 90 = .ok (.iload_n 2, 1) := by decide +kernel
theorem dX11_pour_91 : decode cX11_pour 91 = .ok (.isub, 1) := by decide +kernel
theorem dX11_pour_92 : decode cX11_pour 92 = .ok (.if_icmp .gt 17, 3) := by decide +kernel
theorem dX11_pour_95 : decode cX11_pour 95 = .ok (.iload 5, 2) := by decide +kernel
theorem dX11_pour_97 : decode cX11_pour 97 = .ok (.aload_n 0, 1) := by decide +kernel
theorem dX11_pour_98 : decode cX11_pour 98 = .ok (.getfield 24, 3) := by decide +kernel
theorem dX11_pour_101 : decode cX11_pour 101 = .ok (.iload_n 3, 1) := by decide +kernel
theorem dX11_pour_102 : decode cX11_pour 102 = .ok (.iaload, 1) := by decide +kernel
theorem dX11_pour_103 : decode cX11_pour 103 = .ok (.iload 4, 2) := by decide +kernel
theorem dX11_pour_105 : decode cX11_pour 105 = .ok (.isub, 1) := by decide +kernel
theorem dX11_pour_106 : decode cX11_pour 106 = .ok (.if_icmp .le 9, 3) := by decide +kernel
theorem dX11_pour_109 : decode cX11_pour 109 = .ok (.aload_n 0, 1) := by decide +kernel
theorem dX11_pour_110 : decode cX11_pour 110 = .ok (.iconst 3, 1) := by decide +kernel
theorem dX11_pour_111 : decode cX11_pour 111 = .ok (.invokevirtual 103, 3) := by decide +kernel
theorem dX11_pour_114 : decode cX11_pour 114 = .ok (.ireturn, 1) := by decide +kernel
theorem dX11_pour_115 : decode cX11_pour 115 = .ok (.iconst 0, 1) := by decide +kernel
theorem dX11_pour_116 : decode cX11_pour 116 = .ok (.istore 6, 2) := by decide +kernel
theorem dX11_pour_118 : decode cX11_pour 118 = .ok (.iload 6, 2) := by decide +kernel
theorem dX11_pour_120 : decode cX11_pour 120 = .ok (.iload 5, 2) := by decide +kernel
theorem dX11_pour_122 : decode cX11_pour 122 = .ok (.if_icmp .ge 58, 3) := by decide +kernel
theorem dX11_pour_125 : decode cX11_pour 125 = .ok (.iload_n 2, 1) := by decide +kernel
theorem dX11_pour_126 : decode cX11_pour 126 = .ok (.iload 4, 2) := by decide +kernel
theorem dX11_pour_128 : decode cX11_pour 128 = .ok (.if_icmp .ge 13, 3) := by decide +kernel
theorem dX11_pour_131 : decode cX11_pour 131 = .ok (.iload 5, 2) := by decide +kernel
theorem dX11_pour_133 : decode cX11_pour 133 = .ok (.iconst 1, 1) := by decide +kernel
theorem dX11_pour_134 : decode cX11_pour 134 = .ok (.isub, 1) := by decide +kernel
theorem dX11_pour_135 : decode cX11_pour 135 = .ok (.iload 6, 2) := by decide +kernel
theorem dX11_pour_137 : decode cX11_pour 137 = .ok (.isub, 1) := by decide +kernel
theorem dX11_pour_138 : decode cX11_pour 138 = .ok (.goto 5, 3) := by decide +kernel
theorem dX11_pour_141 : decode cX11_pour 141 = .ok (.iload 6, 2) := by decide +kernel
theorem dX11_pour_143 : decode cX11_pour 143 = .ok (.istore 7, 2) := by decide +kernel
theorem dX11_pour_145 : decode cX11_pour 145 = .ok (.aload_n 0, 1) := by decide +kernel
theorem dX11_pour_146 : decode cX11_pour 146 = .ok (.getfield 27, 3) := by decide +kernel
theorem dX11_pour_149 : decode cX11_pour 149 = .ok (.bipush 60, 2) := by decide +kernel
theorem dX11_pour_151 : decode cX11_pour 151 = .ok (.iload_n 3, 1) := by decide +kernel
theorem dX11_pour_152 : decode cX11_pour 152 = .ok (.imul, 1) := by decide +kernel
theorem dX11_pour_153 : decode cX11_pour 153 = .ok (.iload 4, 2) := by decide +kernel
theorem dX11_pour_155 : decode cX11_pour 155 = .ok (.iadd, 1) := by decide +kernel
theorem dX11_pour_156 : decode cX11_pour 156 = .ok (.iload 7, 2) := by decide +kernel
theorem dX11_pour_158 : decode cX11_pour 158 = .ok (.iadd, 1) := by decide +kernel
theorem dX11_pour_159 : decode cX11_pour 159 = .ok (.aload_n 0, 1) := by decide +kernel
theorem dX11_pour_160 : decode cX11_pour 160 = .ok (.getfield 27, 3) := by decide +kernel
theorem dX11_pour_163 : decode cX11_pour 163 = .ok (.bipush 60, 2) := by decide +kernel
theorem dX11_pour_165 : decode cX11_pour 165 = .ok (.iload_n 1, 1) := by decide +kernel
theorem dX11_pour_166 : decode cX11_pour 166 = .ok (.imul, 1) := by decide +kernel
theorem dX11_pour_167 : decode cX11_pour 167 = .ok (.iload_n 2, 1) := by decide +kernel
theorem dX11_pour_168 : decode cX11_pour 168 = .ok (.iadd, 1) := by decide +kernel
theorem dX11_pour_169 : decode cX11_pour 169 = .ok (.iload 7, 2) := by decide +kernel
theorem dX11_pour_171 : decode cX11_pour 171 = .ok (.iadd, 1) := by decide +kernel
theorem dX11_pour_172 : decode cX11_pour 172 = .ok (.laload, 1) := by decide +kernel
theorem dX11_pour_173 : decode cX11_pour 173 = .ok (.lastore, 1) := by decide +kernel
theorem dX11_pour_174 : decode cX11_pour 174 = .ok (.iinc 6 1, 3) := by decide +kernel
theorem dX11_pour_177 : decode cX11_pour 177 = .ok (.goto (-59), 3) := by decide +kernel
theorem dX11_pour_180 : decode cX11_pour 180 = .ok (.aload_n 0, 1) := by decide +kernel
theorem dX11_pour_181 : decode cX11_pour 181 = .ok (.iconst 0, 1) := by decide +kernel
theorem dX11_pour_182 : decode cX11_pour 182 = .ok (.invokevirtual 103, 3) := by decide +kernel
theorem dX11_pour_185 : decode cX11_pour 185 = .ok (.ireturn, 1) := by decide +kernel
theorem dX11_isFrom_0 : decode cX11_isFrom 0 = .ok (.lload_n 0, 1) := by decide +kernel
theorem dX11_isFrom_1 : decode cX11_isFrom 1 = .ok (.lload_n 2, 1) := by decide +kernel
theorem dX11_isFrom_2 : decode cX11_isFrom 2 = .ok (.lcmp, 1) := by decide +kernel
theorem dX11_isFrom_3 : decode cX11_isFrom 3 = .ok (.ifCond .lt 14, 3) := by decide +kernel
theorem dX11_isFrom_6 : decode cX11_isFrom 6 = .ok (.lload_n 0, 1) := by decide +kernel
theorem dX11_isFrom_7 : decode cX11_isFrom 7 = .ok (.lload 4, 2) := by decide +kernel
theorem dX11_isFrom_9 : decode cX11_isFrom 9 = .ok (.lcmp, 1) := by decide +kernel
theorem dX11_isFrom_10 : decode cX11_isFrom 10 = .ok (.ifCond .gt 7, 3) := by decide +kernel
theorem dX11_isFrom_13 : decode cX11_isFrom 13 = .ok (.iconst 1, 1) := by decide +kernel
theorem dX11_isFrom_14 : decode cX11_isFrom 14 = .ok (.goto 4, 3) := by decide +kernel
theorem dX11_isFrom_17 : decode cX11_isFrom 17 = .ok (.iconst 0, 1) := by decide +kernel
theorem dX11_isFrom_18 : decode cX11_isFrom 18 = .ok (.ireturn, 1) := by decide +kernel
theorem dX11_feed_0 : decode cX11_feed 0 = .ok (.aload_n 0, 1) := by decide +kernel
theorem dX11_feed_1 : decode cX11_feed 1 = .ok (.getfield 120, 3) := by decide +kernel
theorem dX11_feed_4 : decode cX11_feed 4 = .ok (.bipush 20, 2) := by decide +kernel
theorem dX11_feed_6 : decode cX11_feed 6 = .ok (.iadd, 1) := by decide +kernel
theorem dX11_feed_7 : decode cX11_feed 7 = .ok (.sipush 900, 3) := by decide +kernel
theorem dX11_feed_10 : decode cX11_feed 10 = .ok (.if_icmp .le 5, 3) := by decide +kernel
theorem dX11_feed_13 : decode cX11_feed 13 = .ok (.iconst (-1), 1) := by decide +kernel
theorem dX11_feed_14 : decode cX11_feed 14 = .ok (.ireturn, 1) := by decide +kernel
theorem dX11_feed_15 : decode cX11_feed 15 = .ok (.aload_n 0, 1) := by decide +kernel
theorem dX11_feed_16 : decode cX11_feed 16 = .ok (.iload_n 1, 1) := by decide +kernel
theorem dX11_feed_17 : decode cX11_feed 17 = .ok (.invokevirtual 123, 3) := by decide +kernel
theorem dX11_feed_20 : decode cX11_feed 20 = .ok (.aload_n 0, 1) := by decide +kernel
theorem dX11_feed_21 : decode cX11_feed 21 = .ok (.iload_n 2, 1) := by decide +kernel
theorem dX11_feed_22 : decode cX11_feed 22 = .ok (.invokevirtual 123, 3) := by decide +kernel
theorem dX11_feed_25 : decode cX11_feed 25 = .ok (.aload_n 0, 1) := by decide +kernel
theorem dX11_feed_26 : decode cX11_feed 26 = .ok (.iload_n 3, 1) := by decide +kernel
theorem dX11_feed_27 : decode cX11_feed 27 = .ok (.invokevirtual 123, 3) := by decide +kernel
theorem dX11_feed_30 : decode cX11_feed 30 = .ok (.aload_n 0, 1) := by decide +kernel
theorem dX11_feed_31 : decode cX11_feed 31 = .ok (.iload 4, 2) := by decide +kernel
theorem dX11_feed_33 : decode cX11_feed 33 = .ok (.invokevirtual 123, 3) := by decide +kernel
theorem dX11_feed_36 : decode cX11_feed 36 = .ok (.aload_n 0, 1) := by decide +kernel
theorem dX11_feed_37 : decode cX11_feed 37 = .ok (.iload 5, 2) := by decide +kernel
theorem dX11_feed_39 : decode cX11_feed 39 = .ok (.invokevirtual 123, 3) := by decide +kernel
theorem dX11_feed_42 : decode cX11_feed 42 = .ok (.aload_n 0, 1) := by decide +kernel
theorem dX11_feed_43 : decode cX11_feed 43 = .ok (.getfield 120, 3) := by decide +kernel
theorem dX11_feed_46 : decode cX11_feed 46 = .ok (.ireturn, 1) := by decide +kernel
theorem dX11_four_0 : decode cX11_four 0 = .ok (.bipush 24, 2) := by decide +kernel
theorem dX11_four_2 : decode cX11_four 2 = .ok (.istore_n 2, 1) := by decide +kernel
theorem dX11_four_3 : decode cX11_four 3 = .ok (.iload_n 2, 1) := by decide +kernel
theorem dX11_four_4 : decode cX11_four 4 = .ok (.ifCond .lt 32, 3) := by decide +kernel
theorem dX11_four_7 : decode cX11_four 7 = .ok (.aload_n 0, 1) := by decide +kernel
theorem dX11_four_8 : decode cX11_four 8 = .ok (.getfield 30, 3) := by decide +kernel
theorem dX11_four_11 : decode cX11_four 11 = .ok (.aload_n 0, 1) := by decide +kernel
theorem dX11_four_12 : decode cX11_four 12 = .ok (.getfield 120, 3) := by decide +kernel
theorem dX11_four_15 : decode cX11_four 15 = .ok (.iload_n 1, 1) := by decide +kernel
theorem dX11_four_16 : decode cX11_four 16 = .ok (.iload_n 2, 1) := by decide +kernel
theorem dX11_four_17 : decode cX11_four 17 = .ok (.ishr, 1) := by decide +kernel
theorem dX11_four_18 : decode cX11_four 18 = .ok (.i2b, 1) := by decide +kernel
theorem dX11_four_19 : decode cX11_four 19 = .ok (.bastore, 1) := by decide +kernel
theorem dX11_four_20 : decode cX11_four 20 = .ok (.aload_n 0, 1) := by decide +kernel
theorem dX11_four_21 : decode cX11_four 21 = .ok (.dup, 1) := by decide +kernel
theorem dX11_four_22 : decode cX11_four 22 = .ok (.getfield 120, 3) := by decide +kernel
theorem dX11_four_25 : decode cX11_four 25 = .ok (.iconst 1, 1) := by decide +kernel
theorem dX11_four_26 : decode cX11_four 26 = .ok (.iadd, 1) := by decide +kernel
theorem dX11_four_27 : decode cX11_four 27 = .ok (.putfield 120, 3) := by decide +kernel
theorem dX11_four_30 : decode cX11_four 30 = .ok (.iinc 2 (-8), 3) := by decide +kernel
theorem dX11_four_33 : decode cX11_four 33 = .ok (.goto (-30), 3) := by decide +kernel
theorem dX11_four_36 : decode cX11_four 36 = .ok (.return_, 1) := by decide +kernel
theorem dX11_byteAt_0 : decode cX11_byteAt 0 = .ok (.iload_n 1, 1) := by decide +kernel
theorem dX11_byteAt_1 : decode cX11_byteAt 1 = .ok (.aload_n 0, 1) := by decide +kernel
theorem dX11_byteAt_2 : decode cX11_byteAt 2 = .ok (.getfield 126, 3) := by decide +kernel
theorem dX11_byteAt_5 : decode cX11_byteAt 5 = .ok (.if_icmp .ge 16, 3) := by decide +kernel
theorem dX11_byteAt_8 : decode cX11_byteAt 8 = .ok (.aload_n 0, 1) := by decide +kernel
theorem dX11_byteAt_9 : decode cX11_byteAt 9 = .ok (.getfield 34, 3) := by decide +kernel
theorem dX11_byteAt_12 : decode cX11_byteAt 12 = .ok (.iload_n 1, 1) := by decide +kernel
theorem dX11_byteAt_13 : decode cX11_byteAt 13 = .ok (.baload, 1) := by decide +kernel
theorem dX11_byteAt_14 : decode cX11_byteAt 14 = .ok (.sipush 255, 3) := by decide +kernel
theorem dX11_byteAt_17 : decode cX11_byteAt 17 = .ok (.iand, 1) := by decide +kernel
theorem dX11_byteAt_18 : decode cX11_byteAt 18 = .ok (.goto 4, 3) := by decide +kernel
theorem dX11_byteAt_21 : decode cX11_byteAt 21 = .ok (.iconst (-1), 1) := by decide +kernel
theorem dX11_byteAt_22 : decode cX11_byteAt 22 = .ok (.ireturn, 1) := by decide +kernel
theorem dX11_isSmall_0 : decode cX11_isSmall 0 = .ok (.iload_n 0, 1) := by decide +kernel
theorem dX11_isSmall_1 : decode cX11_isSmall 1 = .ok (.bipush 97, 2) := by decide +kernel
theorem dX11_isSmall_3 : decode cX11_isSmall 3 = .ok (.if_icmp .lt 13, 3) := by decide +kernel
theorem dX11_isSmall_6 : decode cX11_isSmall 6 = .ok (.iload_n 0, 1) := by decide +kernel
theorem dX11_isSmall_7 : decode cX11_isSmall 7 = .ok (.bipush 122, 2) := by decide +kernel
theorem dX11_isSmall_9 : decode cX11_isSmall 9 = .ok (.if_icmp .gt 7, 3) := by decide +kernel
theorem dX11_isSmall_12 : decode cX11_isSmall 12 = .ok (.iconst 1, 1) := by decide +kernel
theorem dX11_isSmall_13 : decode cX11_isSmall 13 = .ok (.goto 4, 3) := by decide +kernel
theorem dX11_isSmall_16 : decode cX11_isSmall 16 = .ok (.iconst 0, 1) := by decide +kernel
theorem dX11_isSmall_17 : decode cX11_isSmall 17 = .ok (.ireturn, 1) := by decide +kernel
theorem dX11_isDigit_0 : decode cX11_isDigit 0 = .ok (.iload_n 0, 1) := by decide +kernel
theorem dX11_isDigit_1 : decode cX11_isDigit 1 = .ok (.bipush 48, 2) := by decide +kernel
theorem dX11_isDigit_3 : decode cX11_isDigit 3 = .ok (.if_icmp .lt 13, 3) := by decide +kernel
theorem dX11_isDigit_6 : decode cX11_isDigit 6 = .ok (.iload_n 0, 1) := by decide +kernel
theorem dX11_isDigit_7 : decode cX11_isDigit 7 = .ok (.bipush 57, 2) := by decide +kernel
theorem dX11_isDigit_9 : decode cX11_isDigit 9 = .ok (.if_icmp .gt 7, 3) := by decide +kernel
theorem dX11_isDigit_12 : decode cX11_isDigit 12 = .ok (.iconst 1, 1) := by decide +kernel
theorem dX11_isDigit_13 : decode cX11_isDigit 13 = .ok (.goto 4, 3) := by decide +kernel
theorem dX11_isDigit_16 : decode cX11_isDigit 16 = .ok (.iconst 0, 1) := by decide +kernel
theorem dX11_isDigit_17 : decode cX11_isDigit 17 = .ok (.ireturn, 1) := by decide +kernel
theorem dX11_ahead_0 : decode cX11_ahead 0 = .ok (.aload_n 0, 1) := by decide +kernel
theorem dX11_ahead_1 : decode cX11_ahead 1 = .ok (.aload_n 0, 1) := by decide +kernel
theorem dX11_ahead_2 : decode cX11_ahead 2 = .ok (.getfield 129, 3) := by decide +kernel
theorem dX11_ahead_5 : decode cX11_ahead 5 = .ok (.invokevirtual 132, 3) := by decide +kernel
theorem dX11_ahead_8 : decode cX11_ahead 8 = .ok (.bipush 32, 2) := by decide +kernel
theorem dX11_ahead_10 : decode cX11_ahead 10 = .ok (.if_icmp .eq 16, 3) := by decide +kernel
theorem dX11_ahead_13 : decode cX11_ahead 13 = .ok (.aload_n 0, 1) := by decide +kernel
theorem dX11_ahead_14 : decode cX11_ahead 14 = .ok (.aload_n 0, 1) := by decide +kernel
theorem dX11_ahead_15 : decode cX11_ahead 15 = .ok (.getfield 129, 3) := by decide +kernel
theorem dX11_ahead_18 : decode cX11_ahead 18 = .ok (.invokevirtual 132, 3) := by decide +kernel
theorem dX11_ahead_21 : decode cX11_ahead 21 = .ok (.bipush 10, 2) := by decide +kernel
theorem dX11_ahead_23 : decode cX11_ahead 23 = .ok (.if_icmp .ne 16, 3) := by decide +kernel
theorem dX11_ahead_26 : decode cX11_ahead 26 = .ok (.aload_n 0, 1) := by decide +kernel
theorem dX11_ahead_27 : decode cX11_ahead 27 = .ok (.dup, 1) := by decide +kernel
theorem dX11_ahead_28 : decode cX11_ahead 28 = .ok (.getfield 129, 3) := by decide +kernel
theorem dX11_ahead_31 : decode cX11_ahead 31 = .ok (.iconst 1, 1) := by decide +kernel
theorem dX11_ahead_32 : decode cX11_ahead 32 = .ok (.iadd, 1) := by decide +kernel
theorem dX11_ahead_33 : decode cX11_ahead 33 = .ok (.putfield 129, 3) := by decide +kernel
theorem dX11_ahead_36 : decode cX11_ahead 36 = .ok (.goto (-36), 3) := by decide +kernel
theorem dX11_ahead_39 : decode cX11_ahead 39 = .ok (.aload_n 0, 1) := by decide +kernel
theorem dX11_ahead_40 : decode cX11_ahead 40 = .ok (.aload_n 0, 1) := by decide +kernel
theorem dX11_ahead_41 : decode cX11_ahead 41 = .ok (.getfield 129, 3) := by decide +kernel
theorem dX11_ahead_44 : decode cX11_ahead 44 = .ok (.putfield 135, 3) := by decide +kernel
theorem dX11_ahead_47 : decode cX11_ahead 47 = .ok (.aload_n 0, 1) := by decide +kernel
theorem dX11_ahead_48 : decode cX11_ahead 48 = .ok (.aload_n 0, 1) := by decide +kernel
theorem dX11_ahead_49 : decode cX11_ahead 49 = .ok (.getfield 129, 3) := by decide +kernel
theorem dX11_ahead_52 : decode cX11_ahead 52 = .ok (.invokevirtual 132, 3) := by decide +kernel
theorem dX11_ahead_55 : decode cX11_ahead 55 = .ok (.istore_n 1, 1) := by decide +kernel
theorem dX11_ahead_56 : decode cX11_ahead 56 = .ok (.aload_n 0, 1) := by decide +kernel
theorem dX11_ahead_57 : decode cX11_ahead 57 = .ok (.iload_n 1, 1) := by decide +kernel
theorem dX11_ahead_58 : decode cX11_ahead 58 = .ok (.putfield 138, 3) := by decide +kernel
theorem dX11_ahead_61 : decode cX11_ahead 61 = .ok (.iload_n 1, 1) := by decide +kernel
theorem dX11_ahead_62 : decode cX11_ahead 62 = .ok (.iconst (-1), 1) := by decide +kernel
theorem dX11_ahead_63 : decode cX11_ahead 63 = .ok (.if_icmp .ne 11, 3) := by decide +kernel
theorem dX11_ahead_66 : decode cX11_ahead 66 = .ok (.aload_n 0, 1) := by decide +kernel
theorem dX11_ahead_67 : decode cX11_ahead 67 = .ok (.iconst 0, 1) := by decide +kernel
theorem dX11_ahead_68 : decode cX11_ahead 68 = .ok (.putfield 141, 3) := by decide +kernel
theorem dX11_ahead_71 : decode cX11_ahead 71 = .ok (.goto 180, 3) := by decide +kernel
theorem dX11_ahead_74 : decode cX11_ahead 74 = .ok (.iload_n 1, 1) := by decide +kernel
theorem dX11_ahead_75 : decode cX11_ahead 75 = .ok (.invokestatic 144, 3) := by decide +kernel
theorem dX11_ahead_78 : decode cX11_ahead 78 = .ok (.ifCond .eq 38, 3) := by decide +kernel
theorem dX11_ahead_81 : decode cX11_ahead 81 = .ok (.aload_n 0, 1) := by decide +kernel
theorem dX11_ahead_82 : decode cX11_ahead 82 = .ok (.aload_n 0, 1) := by decide +kernel
theorem dX11_ahead_83 : decode cX11_ahead 83 = .ok (.getfield 129, 3) := by decide +kernel
theorem dX11_ahead_86 : decode cX11_ahead 86 = .ok (.invokevirtual 132, 3) := by decide +kernel
theorem dX11_ahead_89 : decode cX11_ahead 89 = .ok (.invokestatic 144, 3) := by decide +kernel
theorem dX11_ahead_92 : decode cX11_ahead 92 = .ok (.ifCond .eq 16, 3) := by decide +kernel
theorem dX11_ahead_95 : decode cX11_ahead 95 = .ok (.aload_n 0, 1) := by decide +kernel
theorem dX11_ahead_96 : decode cX11_ahead 96 = .ok (.dup, 1) := by decide +kernel
theorem dX11_ahead_97 : decode cX11_ahead 97 = .ok (.getfield 129, 3) := by decide +kernel
theorem dX11_ahead_100 : decode cX11_ahead 100 = .ok (.iconst 1, 1) := by decide +kernel
theorem dX11_ahead_101 : decode cX11_ahead 101 = .ok (.iadd, 1) := by decide +kernel
theorem dX11_ahead_102 : decode cX11_ahead 102 = .ok (.putfield 129, 3) := by decide +kernel
theorem dX11_ahead_105 : decode cX11_ahead 105 = .ok (.goto (-24), 3) := by decide +kernel
theorem dX11_ahead_108 : decode cX11_ahead 108 = .ok (.aload_n 0, 1) := by decide +kernel
theorem dX11_ahead_109 : decode cX11_ahead 109 = .ok (.iconst 2, 1) := by decide +kernel
theorem dX11_ahead_110 : decode cX11_ahead 110 = .ok (.putfield 141, 3) := by decide +kernel
theorem dX11_ahead_113 : decode cX11_ahead 113 = .ok (.goto 138, 3) := by decide +kernel
theorem dX11_ahead_116 : decode cX11_ahead 116 = .ok (.iload_n 1, 1) := by decide +kernel
theorem dX11_ahead_117 : decode cX11_ahead 117 = .ok (.invokestatic 147, 3) := by decide +kernel
theorem dX11_ahead_120 : decode cX11_ahead 120 = .ok (.ifCond .eq 88, 3) := by decide +kernel
theorem dX11_ahead_123 : decode cX11_ahead 123 = .ok (.aload_n 0, 1) := by decide +kernel
theorem dX11_ahead_124 : decode cX11_ahead 124 = .ok (.iconst 0, 1) := by decide +kernel
theorem dX11_ahead_125 : decode cX11_ahead 125 = .ok (.putfield 138, 3) := by decide +kernel
theorem dX11_ahead_128 : decode cX11_ahead 128 = .ok (.aload_n 0, 1) := by decide +kernel
theorem dX11_ahead_129 : decode cX11_ahead 129 = .ok (.aload_n 0, 1) := by decide +kernel
theorem dX11_ahead_130 : decode cX11_ahead 130 = .ok (.getfield 129, 3) := by decide +kernel
theorem dX11_ahead_133 : decode cX11_ahead 133 = .ok (.invokevirtual 132, 3) := by decide +kernel
theorem dX11_ahead_136 : decode cX11_ahead 136 = .ok (.invokestatic 147, 3) := by decide +kernel
theorem dX11_ahead_139 : decode cX11_ahead 139 = .ok (.ifCond .eq 44, 3) := by decide +kernel
theorem dX11_ahead_142 : decode cX11_ahead 142 = .ok (.aload_n 0, 1) := by decide +kernel
theorem dX11_ahead_143 : decode cX11_ahead 143 = .ok (.ldc 150, 2) := by decide +kernel
theorem dX11_ahead_145 : decode cX11_ahead 145 = .ok (.bipush 10, 2) := by decide +kernel
theorem dX11_ahead_147 : decode cX11_ahead 147 = .ok (.aload_n 0, 1) := by decide +kernel
theorem dX11_ahead_148 : decode cX11_ahead 148 = .ok (.getfield 138, 3) := by decide +kernel
theorem dX11_ahead_151 : decode cX11_ahead 151 = .ok (.imul, 1) := by decide +kernel
theorem dX11_ahead_152 : decode cX11_ahead 152 = .ok (.aload_n 0, 1) := by decide +kernel
theorem dX11_ahead_153 : decode cX11_ahead 153 = .ok (.aload_n 0, 1) := by decide +kernel
theorem dX11_ahead_154 : decode cX11_ahead 154 = .ok (.getfield 129, 3) := by decide +kernel
theorem dX11_ahead_157 : decode cX11_ahead 157 = .ok (.invokevirtual 132, 3) := by decide +kernel
theorem dX11_ahead_160 : decode cX11_ahead 160 = .ok (.iadd, 1) := by decide +kernel
theorem dX11_ahead_161 : decode cX11_ahead 161 = .ok (.bipush 48, 2) := by decide +kernel
theorem dX11_ahead_163 : decode cX11_ahead 163 = .ok (.isub, 1) := by decide +kernel
theorem dX11_ahead_164 : decode cX11_ahead 164 = .ok (.invokestatic 151, 3) := by decide +kernel
theorem dX11_ahead_167 : decode cX11_ahead 167 = .ok (.putfield 138, 3) := by decide +kernel
theorem dX11_ahead_170 : decode cX11_ahead 170 = .ok (.aload_n 0, 1) := by decide +kernel
theorem dX11_ahead_171 : decode cX11_ahead 171 = .ok (.dup, 1) := by decide +kernel
theorem dX11_ahead_172 : decode cX11_ahead 172 = .ok (.getfield 129, 3) := by decide +kernel
theorem dX11_ahead_175 : decode cX11_ahead 175 = .ok (.iconst 1, 1) := by decide +kernel
theorem dX11_ahead_176 : decode cX11_ahead 176 = .ok (.iadd, 1) := by decide +kernel
theorem dX11_ahead_177 : decode cX11_ahead 177 = .ok (.putfield 129, 3) := by decide +kernel
theorem dX11_ahead_180 : decode cX11_ahead 180 = .ok (.goto (-52), 3) := by decide +kernel
theorem dX11_ahead_183 : decode cX11_ahead 183 = .ok (.aload_n 0, 1) := by decide +kernel
theorem dX11_ahead_184 : decode cX11_ahead 184 = .ok (.aload_n 0, 1) := by decide +kernel
theorem dX11_ahead_185 : decode cX11_ahead 185 = .ok (.getfield 129, 3) := by decide +kernel
theorem dX11_ahead_188 : decode cX11_ahead 188 = .ok (.aload_n 0, 1) := by decide +kernel
theorem dX11_ahead_189 : decode cX11_ahead 189 = .ok (.getfield 135, 3) := by decide +kernel
theorem dX11_ahead_192 : decode cX11_ahead 192 = .ok (.isub, 1) := by decide +kernel
theorem dX11_ahead_193 : decode cX11_ahead 193 = .ok (.iconst 4, 1) := by decide +kernel
theorem dX11_ahead_194 : decode cX11_ahead 194 = .ok (.if_icmp .le 7, 3) := by decide +kernel
theorem dX11_ahead_197 : decode cX11_ahead 197 = .ok (.iconst 1, 1) := by decide +kernel
theorem dX11_ahead_198 : decode cX11_ahead 198 = .ok (.goto 4, 3) := by decide +kernel
theorem dX11_ahead_201 : decode cX11_ahead 201 = .ok (.iconst 3, 1) := by decide +kernel
theorem dX11_ahead_202 : decode cX11_ahead 202 = .ok (.putfield 141, 3) := by decide +kernel
theorem dX11_ahead_205 : decode cX11_ahead 205 = .ok (.goto 46, 3) := by decide +kernel
theorem dX11_ahead_208 : decode cX11_ahead 208 = .ok (.aload_n 0, 1) := by decide +kernel
theorem dX11_ahead_209 : decode cX11_ahead 209 = .ok (.dup, 1) := by decide +kernel
theorem dX11_ahead_210 : decode cX11_ahead 210 = .ok (.getfield 129, 3) := by decide +kernel
theorem dX11_ahead_213 : decode cX11_ahead 213 = .ok (.iconst 1, 1) := by decide +kernel
theorem dX11_ahead_214 : decode cX11_ahead 214 = .ok (.iadd, 1) := by decide +kernel
theorem dX11_ahead_215 : decode cX11_ahead 215 = .ok (.putfield 129, 3) := by decide +kernel
theorem dX11_ahead_218 : decode cX11_ahead 218 = .ok (.aload_n 0, 1) := by decide +kernel
theorem dX11_ahead_219 : decode cX11_ahead 219 = .ok (.iload_n 1, 1) := by decide +kernel
theorem dX11_ahead_220 : decode cX11_ahead 220 = .ok (.bipush 59, 2) := by decide +kernel
theorem dX11_ahead_222 : decode cX11_ahead 222 = .ok (.if_icmp .eq 21, 3) := by decide +kernel
theorem dX11_ahead_225 : decode cX11_ahead 225 = .ok (.iload_n 1, 1) := by decide +kernel
theorem dX11_ahead_226 : decode cX11_ahead 226 = .ok (.bipush 60, 2) := by decide +kernel
theorem dX11_ahead_228 : decode cX11_ahead 228 = .ok (.if_icmp .eq 15, 3) := by decide +kernel
theorem dX11_ahead_231 : decode cX11_ahead 231 = .ok (.iload_n 1, 1) := by decide +kernel
theorem dX11_ahead_232 : decode cX11_ahead 232 = .ok (.bipush 62, 2) := by decide +kernel
theorem dX11_ahead_234 : decode cX11_ahead 234 = .ok (.if_icmp .eq 9, 3) := by decide +kernel
theorem dX11_ahead_237 : decode cX11_ahead 237 = .ok (.iload_n 1, 1) := by decide +kernel
theorem dX11_ahead_238 : decode cX11_ahead 238 = .ok (.bipush 61, 2) := by decide +kernel
theorem dX11_ahead_240 : decode cX11_ahead 240 = .ok (.if_icmp .ne 7, 3) := by decide +kernel
theorem dX11_ahead_243 : decode cX11_ahead 243 = .ok (.iconst 4, 1) := by decide +kernel
theorem dX11_ahead_244 : decode cX11_ahead 244 = .ok (.goto 4, 3) := by decide +kernel
theorem dX11_ahead_247 : decode cX11_ahead 247 = .ok (.iconst 1, 1) := by decide +kernel
theorem dX11_ahead_248 : decode cX11_ahead 248 = .ok (.putfield 141, 3) := by decide +kernel
theorem dX11_ahead_251 : decode cX11_ahead 251 = .ok (.return_, 1) := by decide +kernel
theorem dX11_isSign_0 : decode cX11_isSign 0 = .ok (.aload_n 0, 1) := by decide +kernel
theorem dX11_isSign_1 : decode cX11_isSign 1 = .ok (.getfield 141, 3) := by decide +kernel
theorem dX11_isSign_4 : decode cX11_isSign 4 = .ok (.iconst 4, 1) := by decide +kernel
theorem dX11_isSign_5 : decode cX11_isSign 5 = .ok (.if_icmp .ne 15, 3) := by decide +kernel
theorem dX11_isSign_8 : decode cX11_isSign 8 = .ok (.aload_n 0, 1) := by decide +kernel
theorem dX11_isSign_9 : decode cX11_isSign 9 = .ok (.getfield 138, 3) := by decide +kernel
theorem dX11_isSign_12 : decode cX11_isSign 12 = .ok (.iload_n 1, 1) := by decide +kernel
theorem dX11_isSign_13 : decode cX11_isSign 13 = .ok (.if_icmp .ne 7, 3) := by decide +kernel
theorem dX11_isSign_16 : decode cX11_isSign 16 = .ok (.iconst 1, 1) := by decide +kernel
theorem dX11_isSign_17 : decode cX11_isSign 17 = .ok (.goto 4, 3) := by decide +kernel
theorem dX11_isSign_20 : decode cX11_isSign 20 = .ok (.iconst 0, 1) := by decide +kernel
theorem dX11_isSign_21 : decode cX11_isSign 21 = .ok (.ireturn, 1) := by decide +kernel
theorem dX11_inWords_0 : decode cX11_inWords 0 = .ok (.aload_n 0, 1) := by decide +kernel
theorem dX11_inWords_1 : decode cX11_inWords 1 = .ok (.getfield 141, 3) := by decide +kernel
theorem dX11_inWords_4 : decode cX11_inWords 4 = .ok (.iconst 2, 1) := by decide +kernel
theorem dX11_inWords_5 : decode cX11_inWords 5 = .ok (.if_icmp .eq 5, 3) := by decide +kernel
theorem dX11_inWords_8 : decode cX11_inWords 8 = .ok (.iconst (-1), 1) := by decide +kernel
theorem dX11_inWords_9 : decode cX11_inWords 9 = .ok (.ireturn, 1) := by decide +kernel
theorem dX11_inWords_10 : decode cX11_inWords 10 = .ok (.iconst 0, 1) := by decide +kernel
theorem dX11_inWords_11 : decode cX11_inWords 11 = .ok (.istore_n 2, 1) := by decide +kernel
theorem dX11_inWords_12 : decode cX11_inWords 12 = .ok (.iconst 1, 1) := by decide +kernel
theorem dX11_inWords_13 : decode cX11_inWords 13 = .ok (.istore_n 3, 1) := by decide +kernel
theorem dX11_inWords_14 : decode cX11_inWords 14 = .ok (.iload_n 3, 1) := by decide +kernel
theorem dX11_inWords_15 : decode cX11_inWords 15 = .ok (.aload_n 1, 1) := by decide +kernel
theorem dX11_inWords_16 : decode cX11_inWords 16 = .ok (.invokevirtual 154, 3) := by decide +kernel
theorem dX11_inWords_19 : decode cX11_inWords 19 = .ok (.if_icmp .ge 114, 3) := by decide +kernel
theorem dX11_inWords_22 : decode cX11_inWords 22 = .ok (.iload_n 3, 1) := by decide +kernel
theorem dX11_inWords_23 : decode cX11_inWords 23 = .ok (.istore 4, 2) := by decide +kernel
theorem dX11_inWords_25 : decode cX11_inWords 25 = .ok (.aload_n 1, 1) := by decide +kernel
theorem dX11_inWords_26 : decode cX11_inWords 26 = .ok (.iload 4, 2) := by decide +kernel
theorem dX11_inWords_28 : decode cX11_inWords 28 = .ok (.invokevirtual 160, 3) := by decide +kernel
theorem dX11_inWords_31 : decode cX11_inWords 31 = .ok (.bipush 32, 2) := by decide +kernel
theorem dX11_inWords_33 : decode cX11_inWords 33 = .ok (.if_icmp .eq 9, 3) := by decide +kernel
theorem dX11_inWords_36 : decode cX11_inWords 36 = .ok (.iinc 4 1, 3) := by decide +kernel
theorem dX11_inWords_39 : decode cX11_inWords 39 = .ok (.goto (-14), 3) := by decide +kernel
theorem dX11_inWords_42 : decode cX11_inWords 42 = .ok (.iload 4, 2) := by decide +kernel
theorem dX11_inWords_44 : decode cX11_inWords 44 = .ok (.iload_n 3, 1) := by decide +kernel
theorem dX11_inWords_45 : decode cX11_inWords 45 = .ok (.isub, 1) := by decide +kernel
theorem dX11_inWords_46 : decode cX11_inWords 46 = .ok (.aload_n 0, 1) := by decide +kernel
theorem dX11_inWords_47 : decode cX11_inWords 47 = .ok (.getfield 129, 3) := by decide +kernel
theorem dX11_inWords_50 : decode cX11_inWords 50 = .ok (.aload_n 0, 1) := by decide +kernel
theorem dX11_inWords_51 : decode cX11_inWords 51 = .ok (.getfield 135, 3) := by decide +kernel
theorem dX11_inWords_54 : decode cX11_inWords 54 = .ok (.isub, 1) := by decide +kernel
theorem dX11_inWords_55 : decode cX11_inWords 55 = .ok (.if_icmp .ne 7, 3) := by decide +kernel
theorem dX11_inWords_58 : decode cX11_inWords 58 = .ok (.iconst 1, 1) := by decide +kernel
theorem dX11_inWords_59 : decode cX11_inWords 59 = .ok (.goto 4, 3) := by decide +kernel
theorem dX11_inWords_62 : decode cX11_inWords 62 = .ok (.iconst 0, 1) := by decide +kernel
theorem dX11_inWords_63 : decode cX11_inWords 63 = .ok (.istore 5, 2) := by decide +kernel
theorem dX11_inWords_65 : decode cX11_inWords 65 = .ok (.iload_n 3, 1) := by decide +kernel
theorem dX11_inWords_66 : decode cX11_inWords 66 = .ok (.istore 6, 2) := by decide +kernel
theorem dX11_inWords_68 : decode cX11_inWords 68 = .ok (.iload 6, 2) := by decide +kernel
theorem dX11_inWords_70 : decode cX11_inWords 70 = .ok (.iload 4, 2) := by decide +kernel
theorem dX11_inWords_72 : decode cX11_inWords 72 = .ok (.if_icmp .ge 43, 3) := by decide +kernel
theorem dX11_inWords_75 : decode cX11_inWords 75 = .ok (.iload 5, 2) := by decide +kernel
theorem dX11_inWords_77 : decode cX11_inWords 77 = .ok (.ifCond .eq 38, 3) := by decide +kernel
theorem dX11_inWords_80 : decode cX11_inWords 80 = .ok (.aload_n 1, 1) := by decide +kernel
theorem dX11_inWords_81 : decode cX11_inWords 81 = .ok (.iload 6, 2) := by decide +kernel
theorem dX11_inWords_83 : decode cX11_inWords 83 = .ok (.invokevirtual 160, 3) := by decide +kernel
theorem dX11_inWords_86 : decode cX11_inWords 86 = .ok (.aload_n 0, 1) := by decide +kernel
theorem dX11_inWords_87 : decode cX11_inWords 87 = .ok (.aload_n 0, 1) := by decide +kernel
theorem dX11_inWords_88 : decode cX11_inWords 88 = .ok (.getfield 135, 3) := by decide +kernel
theorem dX11_inWords_91 : decode cX11_inWords 91 = .ok (.iload 6, 2) := by decide +kernel
theorem dX11_inWords_93 : decode cX11_inWords 93 = .ok (.iadd, 1) := by decide +kernel
theorem dX11_inWords_94 : decode cX11_inWords 94 = .ok (.iload_n 3, 1) := by decide +kernel
theorem dX11_inWords_95 : decode cX11_inWords 95 = .ok (.isub, 1) := by decide +kernel
theorem dX11_inWords_96 : decode cX11_inWords 96 = .ok (.invokevirtual 132, 3) := by decide +kernel
theorem dX11_inWords_99 : decode cX11_inWords 99 = .ok (.if_icmp .ne 7, 3) := by decide +kernel
theorem dX11_inWords_102 : decode cX11_inWords 102 = .ok (.iconst 1, 1) := by decide +kernel
theorem dX11_inWords_103 : decode cX11_inWords 103 = .ok (.goto 4, 3) := by decide +kernel
theorem dX11_inWords_106 : decode cX11_inWords 106 = .ok (.iconst 0, 1) := by decide +kernel
theorem dX11_inWords_107 : decode cX11_inWords 107 = .ok (.istore 5, 2) := by decide +kernel
theorem dX11_inWords_109 : decode cX11_inWords 109 = .ok (.iinc 6 1, 3) := by decide +kernel
theorem dX11_inWords_112 : decode cX11_inWords 112 = .ok (.goto (-44), 3) := by decide +kernel
theorem dX11_inWords_115 : decode cX11_inWords 115 = .ok (.iload 5, 2) := by decide +kernel
theorem dX11_inWords_117 : decode cX11_inWords 117 = .ok (.ifCond .eq 5, 3) := by decide +kernel
theorem dX11_inWords_120 : decode cX11_inWords 120 = .ok (.iload_n 2, 1) := by decide +kernel
theorem dX11_inWords_121 : decode cX11_inWords 121 = .ok (.ireturn, 1) := by decide +kernel
theorem dX11_inWords_122 : decode cX11_inWords 122 = .ok (.iinc 2 1, 3) := by decide +kernel
theorem dX11_inWords_125 : decode cX11_inWords 125 = .ok (.iload 4, 2) := by decide +kernel
theorem dX11_inWords_127 : decode cX11_inWords 127 = .ok (.iconst 1, 1) := by decide +kernel
theorem dX11_inWords_128 : decode cX11_inWords 128 = .ok (.iadd, 1) := by decide +kernel
theorem dX11_inWords_129 : decode cX11_inWords 129 = .ok (.istore_n 3, 1) := by decide +kernel
theorem dX11_inWords_130 : decode cX11_inWords 130 = .ok (.goto (-116), 3) := by decide +kernel
theorem dX11_inWords_133 : decode cX11_inWords 133 = .ok (.iconst (-1), 1) := by decide +kernel
theorem dX11_inWords_134 : decode cX11_inWords 134 = .ok (.ireturn, 1) := by decide +kernel
theorem dX11_errs_0 : decode cX11_errs 0 = .ok (.aload_n 0, 1) := by decide +kernel
theorem dX11_errs_1 : decode cX11_errs 1 = .ok (.getfield 164, 3) := by decide +kernel
theorem dX11_errs_4 : decode cX11_errs 4 = .ok (.ifCond .ne 28, 3) := by decide +kernel
theorem dX11_errs_7 : decode cX11_errs 7 = .ok (.aload_n 0, 1) := by decide +kernel
theorem dX11_errs_8 : decode cX11_errs 8 = .ok (.aload_n 0, 1) := by decide +kernel
theorem dX11_errs_9 : decode cX11_errs 9 = .ok (.getfield 141, 3) := by decide +kernel
theorem dX11_errs_12 : decode cX11_errs 12 = .ok (.iconst 1, 1) := by decide +kernel
theorem dX11_errs_13 : decode cX11_errs 13 = .ok (.if_icmp .ne 7, 3) := by decide +kernel
theorem dX11_errs_16 : decode cX11_errs 16 = .ok (.iconst 1, 1) := by decide +kernel
theorem dX11_errs_17 : decode cX11_errs 17 = .ok (.goto 4, 3) := by decide +kernel
theorem dX11_errs_20 : decode cX11_errs 20 = .ok (.iload_n 1, 1) := by decide +kernel
theorem dX11_errs_21 : decode cX11_errs 21 = .ok (.putfield 164, 3) := by decide +kernel
theorem dX11_errs_24 : decode cX11_errs 24 = .ok (.aload_n 0, 1) := by decide +kernel
theorem dX11_errs_25 : decode cX11_errs 25 = .ok (.aload_n 0, 1) := by decide +kernel
theorem dX11_errs_26 : decode cX11_errs 26 = .ok (.getfield 135, 3) := by decide +kernel
theorem dX11_errs_29 : decode cX11_errs 29 = .ok (.putfield 41, 3) := by decide +kernel
theorem dX11_errs_32 : decode cX11_errs 32 = .ok (.iconst 0, 1) := by decide +kernel
theorem dX11_errs_33 : decode cX11_errs 33 = .ok (.ireturn, 1) := by decide +kernel
theorem dX11_begins_0 : decode cX11_begins 0 = .ok (.iload_n 1, 1) := by decide +kernel
theorem dX11_begins_1 : decode cX11_begins 1 = .ok (.ifCond .lt 16, 3) := by decide +kernel
theorem dX11_begins_4 : decode cX11_begins 4 = .ok (.iload_n 1, 1) := by decide +kernel
theorem dX11_begins_5 : decode cX11_begins 5 = .ok (.aload_n 0, 1) := by decide +kernel
theorem dX11_begins_6 : decode cX11_begins 6 = .ok (.getfield 120, 3) := by decide +kernel
theorem dX11_begins_9 : decode cX11_begins 9 = .ok (.if_icmp .gt 8, 3) := by decide +kernel
theorem dX11_begins_12 : decode cX11_begins 12 = .ok (.iload_n 1, 1) := by decide +kernel
theorem dX11_begins_13 : decode cX11_begins 13 = .ok (.iload_n 2, 1) := by decide +kernel
theorem dX11_begins_14 : decode cX11_begins 14 = .ok (.if_icmp .le 5, 3) := by decide +kernel
theorem dX11_begins_17 : decode cX11_begins 17 = .ok (.iconst 0, 1) := by decide +kernel
theorem dX11_begins_18 : decode cX11_begins 18 = .ok (.ireturn, 1) := by decide +kernel
theorem dX11_begins_19 : decode cX11_begins 19 = .ok (.aload_n 0, 1) := by decide +kernel
theorem dX11_begins_20 : decode cX11_begins 20 = .ok (.iload_n 1, 1) := by decide +kernel
theorem dX11_begins_21 : decode cX11_begins 21 = .ok (.putfield 126, 3) := by decide +kernel
theorem dX11_begins_24 : decode cX11_begins 24 = .ok (.iconst 0, 1) := by decide +kernel
theorem dX11_begins_25 : decode cX11_begins 25 = .ok (.istore_n 3, 1) := by decide +kernel
theorem dX11_begins_26 : decode cX11_begins 26 = .ok (.iload_n 3, 1) := by decide +kernel
theorem dX11_begins_27 : decode cX11_begins 27 = .ok (.iload_n 1, 1) := by decide +kernel
theorem dX11_begins_28 : decode cX11_begins 28 = .ok (.if_icmp .ge 21, 3) := by decide +kernel
theorem dX11_begins_31 : decode cX11_begins 31 = .ok (.aload_n 0, 1) := by decide +kernel
theorem dX11_begins_32 : decode cX11_begins 32 = .ok (.getfield 34, 3) := by decide +kernel
theorem dX11_begins_35 : decode cX11_begins 35 = .ok (.iload_n 3, 1) := by decide +kernel
theorem dX11_begins_36 : decode cX11_begins 36 = .ok (.aload_n 0, 1) := by decide +kernel
theorem dX11_begins_37 : decode cX11_begins 37 = .ok (.getfield 30, 3) := by decide +kernel
theorem dX11_begins_40 : decode cX11_begins 40 = .ok (.iload_n 3, 1) := by decide +kernel
theorem dX11_begins_41 : decode cX11_begins 41 = .ok (.baload, 1) := by decide +kernel
theorem dX11_begins_42 : decode cX11_begins 42 = .ok (.bastore, 1) := by decide +kernel
theorem dX11_begins_43 : decode cX11_begins 43 = .ok (.iinc 3 1, 3) := by decide +kernel
theorem dX11_begins_46 : decode cX11_begins 46 = .ok (.goto (-20), 3) := by decide +kernel
theorem dX11_begins_49 : decode cX11_begins 49 = .ok (.aload_n 0, 1) := by decide +kernel
theorem dX11_begins_50 : decode cX11_begins 50 = .ok (.iconst 0, 1) := by decide +kernel
theorem dX11_begins_51 : decode cX11_begins 51 = .ok (.putfield 120, 3) := by decide +kernel
theorem dX11_begins_54 : decode cX11_begins 54 = .ok (.aload_n 0, 1) := by decide +kernel
theorem dX11_begins_55 : decode cX11_begins 55 = .ok (.iconst 0, 1) := by decide +kernel
theorem dX11_begins_56 : decode cX11_begins 56 = .ok (.putfield 164, 3) := by decide +kernel
theorem dX11_begins_59 : decode cX11_begins 59 = .ok (.aload_n 0, 1) := by decide +kernel
theorem dX11_begins_60 : decode cX11_begins 60 = .ok (.iconst (-1), 1) := by decide +kernel
theorem dX11_begins_61 : decode cX11_begins 61 = .ok (.putfield 41, 3) := by decide +kernel
theorem dX11_begins_64 : decode cX11_begins 64 = .ok (.aload_n 0, 1) := by decide +kernel
theorem dX11_begins_65 : decode cX11_begins 65 = .ok (.iconst 0, 1) := by decide +kernel
theorem dX11_begins_66 : decode cX11_begins 66 = .ok (.putfield 129, 3) := by decide +kernel
theorem dX11_begins_69 : decode cX11_begins 69 = .ok (.aload_n 0, 1) := by decide +kernel
theorem dX11_begins_70 : decode cX11_begins 70 = .ok (.iconst 0, 1) := by decide +kernel
theorem dX11_begins_71 : decode cX11_begins 71 = .ok (.putfield 167, 3) := by decide +kernel
theorem dX11_begins_74 : decode cX11_begins 74 = .ok (.aload_n 0, 1) := by decide +kernel
theorem dX11_begins_75 : decode cX11_begins 75 = .ok (.invokevirtual 170, 3) := by decide +kernel
theorem dX11_begins_78 : decode cX11_begins 78 = .ok (.iconst 1, 1) := by decide +kernel
theorem dX11_begins_79 : decode cX11_begins 79 = .ok (.ireturn, 1) := by decide +kernel
theorem dX11_wantSign_0 : decode cX11_wantSign 0 = .ok (.aload_n 0, 1) := by decide +kernel
theorem dX11_wantSign_1 : decode cX11_wantSign 1 = .ok (.iload_n 1, 1) := by decide +kernel
theorem dX11_wantSign_2 : decode cX11_wantSign 2 = .ok (.invokevirtual 173, 3) := by decide +kernel
theorem dX11_wantSign_5 : decode cX11_wantSign 5 = .ok (.ifCond .ne 9, 3) := by decide +kernel
theorem dX11_wantSign_8 : decode cX11_wantSign 8 = .ok (.aload_n 0, 1) := by decide +kernel
theorem dX11_wantSign_9 : decode cX11_wantSign 9 = .ok (.iconst 2, 1) := by decide +kernel
theorem dX11_wantSign_10 : decode cX11_wantSign 10 = .ok (.invokevirtual 176, 3) := by decide +kernel
theorem dX11_wantSign_13 : decode cX11_wantSign 13 = .ok (.ireturn, 1) := by decide +kernel
theorem dX11_wantSign_14 : decode cX11_wantSign 14 = .ok (.aload_n 0, 1) := by decide +kernel
theorem dX11_wantSign_15 : decode cX11_wantSign 15 = .ok (.invokevirtual 170, 3) := by decide +kernel
theorem dX11_wantSign_18 : decode cX11_wantSign 18 = .ok (.iconst 1, 1) := by decide +kernel
theorem dX11_wantSign_19 : decode cX11_wantSign 19 = .ok (.ireturn, 1) := by decide +kernel
theorem dX11_wantWord_0 : decode cX11_wantWord 0 = .ok (.aload_n 0, 1) := by decide +kernel
theorem dX11_wantWord_1 : decode cX11_wantWord 1 = .ok (.aload_n 1, 1) := by decide +kernel
theorem dX11_wantWord_2 : decode cX11_wantWord 2 = .ok (.invokevirtual 179, 3) := by decide +kernel
theorem dX11_wantWord_5 : decode cX11_wantWord 5 = .ok (.iload_n 2, 1) := by decide +kernel
theorem dX11_wantWord_6 : decode cX11_wantWord 6 = .ok (.if_icmp .eq 9, 3) := by decide +kernel
theorem dX11_wantWord_9 : decode cX11_wantWord 9 = .ok (.aload_n 0, 1) := by decide +kernel
theorem dX11_wantWord_10 : decode cX11_wantWord 10 = .ok (.iconst 2, 1) := by decide +kernel
theorem dX11_wantWord_11 : decode cX11_wantWord 11 = .ok (.invokevirtual 176, 3) := by decide +kernel
theorem dX11_wantWord_14 : decode cX11_wantWord 14 = .ok (.ireturn, 1) := by decide +kernel
theorem dX11_wantWord_15 : decode cX11_wantWord 15 = .ok (.aload_n 0, 1) := by decide +kernel
theorem dX11_wantWord_16 : decode cX11_wantWord 16 = .ok (.invokevirtual 170, 3) := by decide +kernel
theorem dX11_wantWord_19 : decode cX11_wantWord 19 = .ok (.iconst 1, 1) := by decide +kernel
theorem dX11_wantWord_20 : decode cX11_wantWord 20 = .ok (.ireturn, 1) := by decide +kernel
theorem dX11_number_0 : decode cX11_number 0 = .ok (.aload_n 0, 1) := by decide +kernel
theorem dX11_number_1 : decode cX11_number 1 = .ok (.getfield 141, 3) := by decide +kernel
theorem dX11_number_4 : decode cX11_number 4 = .ok (.iconst 3, 1) := by decide +kernel
theorem dX11_number_5 : decode cX11_number 5 = .ok (.if_icmp .eq 9, 3) := by decide +kernel
theorem dX11_number_8 : decode cX11_number 8 = .ok (.aload_n 0, 1) := by decide +kernel
theorem dX11_number_9 : decode cX11_number 9 = .ok (.iconst 2, 1) := by decide +kernel
theorem dX11_number_10 : decode cX11_number 10 = .ok (.invokevirtual 176, 3) := by decide +kernel
theorem dX11_number_13 : decode cX11_number 13 = .ok (.ireturn, 1) := by decide +kernel
theorem dX11_number_14 : decode cX11_number 14 = .ok (.aload_n 0, 1) := by decide +kernel
theorem dX11_number_15 : decode cX11_number 15 = .ok (.getfield 138, 3) := by decide +kernel
theorem dX11_number_18 : decode cX11_number 18 = .ok (.iload_n 2, 1) := by decide +kernel
theorem dX11_number_19 : decode cX11_number 19 = .ok (.if_icmp .lt 11, 3) := by decide +kernel
theorem dX11_number_22 : decode cX11_number 22 = .ok (.aload_n 0, 1) := by decide +kernel
theorem dX11_number_23 : decode cX11_number 23 = .ok (.getfield 138, 3) := by decide +kernel
theorem dX11_number_26 : decode cX11_number 26 = .ok (.iload_n 3, 1) := by decide +kernel
theorem dX11_number_27 : decode cX11_number 27 = .ok (.if_icmp .le 9, 3) := by decide +kernel
theorem dX11_number_30 : decode cX11_number 30 = .ok (.aload_n 0, 1) := by decide +kernel
theorem dX11_number_31 : decode cX11_number 31 = .ok (.iconst 4, 1) := by decide +kernel
theorem dX11_number_32 : decode cX11_number 32 = .ok (.invokevirtual 176, 3) := by decide +kernel
theorem dX11_number_35 : decode cX11_number 35 = .ok (.ireturn, 1) := by decide +kernel
theorem dX11_number_36 : decode cX11_number 36 = .ok (.aload_n 0, 1) := by decide +kernel
theorem dX11_number_37 : decode cX11_number 37 = .ok (.getfield 7, 3) := by decide +kernel
theorem dX11_number_40 : decode cX11_number 40 = .ok (.iload_n 1, 1) := by decide +kernel
theorem dX11_number_41 : decode cX11_number 41 = .ok (.aload_n 0, 1) := by decide +kernel
theorem dX11_number_42 : decode cX11_number 42 = .ok (.getfield 138, 3) := by decide +kernel
theorem dX11_number_45 : decode cX11_number 45 = .ok (.iastore, 1) := by decide +kernel
theorem dX11_number_46 : decode cX11_number 46 = .ok (.aload_n 0, 1) := by decide +kernel
theorem dX11_number_47 : decode cX11_number 47 = .ok (.invokevirtual 170, 3) := by decide +kernel
theorem dX11_number_50 : decode cX11_number 50 = .ok (.iconst 1, 1) := by decide +kernel
theorem dX11_number_51 : decode cX11_number 51 = .ok (.ireturn, 1) := by decide +kernel
theorem dX11_isName_0 : decode cX11_isName 0 = .ok (.aload_n 0, 1) := by decide +kernel
theorem dX11_isName_1 : decode cX11_isName 1 = .ok (.getfield 141, 3) := by decide +kernel
theorem dX11_isName_4 : decode cX11_isName 4 = .ok (.iconst 2, 1) := by decide +kernel
theorem dX11_isName_5 : decode cX11_isName 5 = .ok (.if_icmp .ne 30, 3) := by decide +kernel
theorem dX11_isName_8 : decode cX11_isName 8 = .ok (.aload_n 0, 1) := by decide +kernel
theorem dX11_isName_9 : decode cX11_isName 9 = .ok (.getfield 129, 3) := by decide +kernel
theorem dX11_isName_12 : decode cX11_isName 12 = .ok (.aload_n 0, 1) := by decide +kernel
theorem dX11_isName_13 : decode cX11_isName 13 = .ok (.getfield 135, 3) := by decide +kernel
theorem dX11_isName_16 : decode cX11_isName 16 = .ok (.isub, 1) := by decide +kernel
theorem dX11_isName_17 : decode cX11_isName 17 = .ok (.bipush 8, 2) := by decide +kernel
theorem dX11_isName_19 : decode cX11_isName 19 = .ok (.if_icmp .gt 16, 3) := by decide +kernel
theorem dX11_isName_22 : decode cX11_isName 22 = .ok (.aload_n 0, 1) := by decide +kernel
theorem dX11_isName_23 : decode cX11_isName 23 = .ok (.aload_n 1, 1) := by decide +kernel
theorem dX11_isName_24 : decode cX11_isName 24 = .ok (.invokevirtual 179, 3) := by decide +kernel
theorem dX11_isName_27 : decode cX11_isName 27 = .ok (.iconst (-1), 1) := by decide +kernel
theorem dX11_isName_28 : decode cX11_isName 28 = .ok (.if_icmp .ne 7, 3) := by decide +kernel
theorem dX11_isName_31 : decode cX11_isName 31 = .ok (.iconst 1, 1) := by decide +kernel
theorem dX11_isName_32 : decode cX11_isName 32 = .ok (.goto 4, 3) := by decide +kernel
theorem dX11_isName_35 : decode cX11_isName 35 = .ok (.iconst 0, 1) := by decide +kernel
theorem dX11_isName_36 : decode cX11_isName 36 = .ok (.ireturn, 1) := by decide +kernel
theorem dX11_nameHere_0 : decode cX11_nameHere 0 = .ok (.lconst 0, 1) := by decide +kernel
theorem dX11_nameHere_1 : decode cX11_nameHere 1 = .ok (.lstore_n 1, 1) := by decide +kernel
theorem dX11_nameHere_2 : decode cX11_nameHere 2 = .ok (.aload_n 0, 1) := by decide +kernel
theorem dX11_nameHere_3 : decode cX11_nameHere 3 = .ok (.getfield 135, 3) := by decide +kernel
theorem dX11_nameHere_6 : decode cX11_nameHere 6 = .ok (.istore_n 3, 1) := by decide +kernel
theorem dX11_nameHere_7 : decode cX11_nameHere 7 = .ok (.iload_n 3, 1) := by decide +kernel
theorem dX11_nameHere_8 : decode cX11_nameHere 8 = .ok (.aload_n 0, 1) := by decide +kernel
theorem dX11_nameHere_9 : decode cX11_nameHere 9 = .ok (.getfield 129, 3) := by decide +kernel
theorem dX11_nameHere_12 : decode cX11_nameHere 12 = .ok (.if_icmp .ge 21, 3) := by decide +kernel
theorem dX11_nameHere_15 : decode cX11_nameHere 15 = .ok (.lload_n 1, 1) := by decide +kernel
theorem dX11_nameHere_16 : decode cX11_nameHere 16 = .ok (.bipush 8, 2) := by decide +kernel
theorem dX11_nameHere_18 : decode cX11_nameHere 18 = .ok (.lshl, 1) := by decide +kernel
theorem dX11_nameHere_19 : decode cX11_nameHere 19 = .ok (.aload_n 0, 1) := by decide +kernel
theorem dX11_nameHere_20 : decode cX11_nameHere 20 = .ok (.iload_n 3, 1) := by decide +kernel
theorem dX11_nameHere_21 : decode cX11_nameHere 21 = .ok (.invokevirtual 132, 3) := by decide +kernel
theorem dX11_nameHere_24 : decode cX11_nameHere 24 = .ok (.i2l, 1) := by decide +kernel
theorem dX11_nameHere_25 : decode cX11_nameHere 25 = .ok (.lor, 1) := by decide +kernel
theorem dX11_nameHere_26 : decode cX11_nameHere 26 = .ok (.lstore_n 1, 1) := by decide +kernel
theorem dX11_nameHere_27 : decode cX11_nameHere 27 = .ok (.iinc 3 1, 3) := by decide +kernel
theorem dX11_nameHere_30 : decode cX11_nameHere 30 = .ok (.goto (-23), 3) := by decide +kernel
theorem dX11_nameHere_33 : decode cX11_nameHere 33 = .ok (.lload_n 1, 1) := by decide +kernel
theorem dX11_nameHere_34 : decode cX11_nameHere 34 = .ok (.lreturn, 1) := by decide +kernel
theorem dX11_findHere_0 : decode cX11_findHere 0 = .ok (.iconst 0, 1) := by decide +kernel
theorem dX11_findHere_1 : decode cX11_findHere 1 = .ok (.istore_n 3, 1) := by decide +kernel
theorem dX11_findHere_2 : decode cX11_findHere 2 = .ok (.iload_n 3, 1) := by decide +kernel
theorem dX11_findHere_3 : decode cX11_findHere 3 = .ok (.iload_n 2, 1) := by decide +kernel
theorem dX11_findHere_4 : decode cX11_findHere 4 = .ok (.if_icmp .ge 27, 3) := by decide +kernel
theorem dX11_findHere_7 : decode cX11_findHere 7 = .ok (.aload_n 0, 1) := by decide +kernel
theorem dX11_findHere_8 : decode cX11_findHere 8 = .ok (.getfield 13, 3) := by decide +kernel
theorem dX11_findHere_11 : decode cX11_findHere 11 = .ok (.iload_n 1, 1) := by decide +kernel
theorem dX11_findHere_12 : decode cX11_findHere 12 = .ok (.iload_n 3, 1) := by decide +kernel
theorem dX11_findHere_13 : decode cX11_findHere 13 = .ok (.iadd, 1) := by decide +kernel
theorem dX11_findHere_14 : decode cX11_findHere 14 = .ok (.laload, 1) := by decide +kernel
theorem dX11_findHere_15 : decode cX11_findHere 15 = .ok (.aload_n 0, 1) := by decide +kernel
theorem dX11_findHere_16 : decode cX11_findHere 16 = .ok (.invokevirtual 183, 3) := by decide +kernel
theorem dX11_findHere_19 : decode cX11_findHere 19 = .ok (.lcmp, 1) := by decide +kernel
theorem dX11_findHere_20 : decode cX11_findHere 20 = .ok (.ifCond .ne 5, 3) := by decide +kernel
theorem dX11_findHere_23 : decode cX11_findHere 23 = .ok (.iload_n 3, 1) := by decide +kernel
theorem dX11_findHere_24 : decode cX11_findHere 24 = .ok (.ireturn, 1) := by decide +kernel
theorem dX11_findHere_25 : decode cX11_findHere 25 = .ok (.iinc 3 1, 3) := by decide +kernel
theorem dX11_findHere_28 : decode cX11_findHere 28 = .ok (.goto (-26), 3) := by decide +kernel
theorem dX11_findHere_31 : decode cX11_findHere 31 = .ok (.iconst (-1), 1) := by decide +kernel
theorem dX11_findHere_32 : decode cX11_findHere 32 = .ok (.ireturn, 1) := by decide +kernel
theorem dX11_fault_0 : decode cX11_fault 0 = .ok (.iload_n 1, 1) := by decide +kernel
theorem dX11_fault_1 : decode cX11_fault 1 = .ok (.ifCond .ne 10, 3) := by decide +kernel
theorem dX11_fault_4 : decode cX11_fault 4 = .ok (.aload_n 0, 1) := by decide +kernel
theorem dX11_fault_5 : decode cX11_fault 5 = .ok (.getfield 37, 3) := by decide +kernel
theorem dX11_fault_8 : decode cX11_fault 8 = .ok (.goto 16, 3) := by decide +kernel
theorem dX11_fault_11 : decode cX11_fault 11 = .ok (.iload_n 1, 1) := by decide +kernel
theorem dX11_fault_12 : decode cX11_fault 12 = .ok (.iconst 1, 1) := by decide +kernel
theorem dX11_fault_13 : decode cX11_fault 13 = .ok (.if_icmp .ne 10, 3) := by decide +kernel
theorem dX11_fault_16 : decode cX11_fault 16 = .ok (.aload_n 0, 1) := by decide +kernel
theorem dX11_fault_17 : decode cX11_fault 17 = .ok (.getfield 41, 3) := by decide +kernel
theorem dX11_fault_20 : decode cX11_fault 20 = .ok (.goto 4, 3) := by decide +kernel
theorem dX11_fault_23 : decode cX11_fault 23 = .ok (.iconst (-1), 1) := by decide +kernel
theorem dX11_fault_24 : decode cX11_fault 24 = .ok (.ireturn, 1) := by decide +kernel
theorem dX11_taken_0 : decode cX11_taken 0 = .ok (.aload_n 0, 1) := by decide +kernel
theorem dX11_taken_1 : decode cX11_taken 1 = .ok (.aload_n 0, 1) := by decide +kernel
theorem dX11_taken_2 : decode cX11_taken 2 = .ok (.getfield 164, 3) := by decide +kernel
theorem dX11_taken_5 : decode cX11_taken 5 = .ok (.putfield 37, 3) := by decide +kernel
theorem dX11_taken_8 : decode cX11_taken 8 = .ok (.aload_n 0, 1) := by decide +kernel
theorem dX11_taken_9 : decode cX11_taken 9 = .ok (.getfield 164, 3) := by decide +kernel
theorem dX11_taken_12 : decode cX11_taken 12 = .ok (.ifCond .le 12, 3) := by decide +kernel
theorem dX11_taken_15 : decode cX11_taken 15 = .ok (.aload_n 0, 1) := by decide +kernel
theorem dX11_taken_16 : decode cX11_taken 16 = .ok (.bipush 9, 2) := by decide +kernel
theorem dX11_taken_18 : decode cX11_taken 18 = .ok (.invokevirtual 90, 3) := by decide +kernel
theorem dX11_taken_21 : decode cX11_taken 21 = .ok (.goto 8, 3) := by decide +kernel
theorem dX11_taken_24 : decode cX11_taken 24 = .ok (.aload_n 0, 1) := by decide +kernel
theorem dX11_taken_25 : decode cX11_taken 25 = .ok (.iload_n 1, 1) := by decide +kernel
theorem dX11_taken_26 : decode cX11_taken 26 = .ok (.invokevirtual 94, 3) := by decide +kernel
theorem dX11_taken_29 : decode cX11_taken 29 = .ok (.ireturn, 1) := by decide +kernel
theorem dX11_isThere_0 : decode cX11_isThere 0 = .ok (.aload_n 0, 1) := by decide +kernel
theorem dX11_isThere_1 : decode cX11_isThere 1 = .ok (.ldc 187, 2) := by decide +kernel
theorem dX11_isThere_3 : decode cX11_isThere 3 = .ok (.invokevirtual 179, 3) := by decide +kernel
theorem dX11_isThere_6 : decode cX11_isThere 6 = .ok (.iload_n 1, 1) := by decide +kernel
theorem dX11_isThere_7 : decode cX11_isThere 7 = .ok (.if_icmp .eq 5, 3) := by decide +kernel
theorem dX11_isThere_10 : decode cX11_isThere 10 = .ok (.iconst 0, 1) := by decide +kernel
theorem dX11_isThere_11 : decode cX11_isThere 11 = .ok (.ireturn, 1) := by decide +kernel
theorem dX11_isThere_12 : decode cX11_isThere 12 = .ok (.aload_n 0, 1) := by decide +kernel
theorem dX11_isThere_13 : decode cX11_isThere 13 = .ok (.invokevirtual 170, 3) := by decide +kernel
theorem dX11_isThere_16 : decode cX11_isThere 16 = .ok (.iconst 1, 1) := by decide +kernel
theorem dX11_isThere_17 : decode cX11_isThere 17 = .ok (.ireturn, 1) := by decide +kernel
theorem dX11_newOne_0 : decode cX11_newOne 0 = .ok (.aload_n 0, 1) := by decide +kernel
theorem dX11_newOne_1 : decode cX11_newOne 1 = .ok (.getfield 7, 3) := by decide +kernel
theorem dX11_newOne_4 : decode cX11_newOne 4 = .ok (.sipush 2096, 3) := by decide +kernel
theorem dX11_newOne_7 : decode cX11_newOne 7 = .ok (.iload_n 1, 1) := by decide +kernel
theorem dX11_newOne_8 : decode cX11_newOne 8 = .ok (.iadd, 1) := by decide +kernel
theorem dX11_newOne_9 : decode cX11_newOne 9 = .ok (.iaload, 1) := by decide +kernel
theorem dX11_newOne_10 : decode cX11_newOne 10 = .ok (.iload_n 2, 1) := by decide +kernel
theorem dX11_newOne_11 : decode cX11_newOne 11 = .ok (.if_icmp .ne 10, 3) := by decide +kernel
theorem dX11_newOne_14 : decode cX11_newOne 14 = .ok (.aload_n 0, 1) := by decide +kernel
theorem dX11_newOne_15 : decode cX11_newOne 15 = .ok (.bipush 6, 2) := by decide +kernel
theorem dX11_newOne_17 : decode cX11_newOne 17 = .ok (.invokevirtual 176, 3) := by decide +kernel
theorem dX11_newOne_20 : decode cX11_newOne 20 = .ok (.ireturn, 1) := by decide +kernel
theorem dX11_newOne_21 : decode cX11_newOne 21 = .ok (.aload_n 0, 1) := by decide +kernel
theorem dX11_newOne_22 : decode cX11_newOne 22 = .ok (.invokevirtual 170, 3) := by decide +kernel
theorem dX11_newOne_25 : decode cX11_newOne 25 = .ok (.aload_n 0, 1) := by decide +kernel
theorem dX11_newOne_26 : decode cX11_newOne 26 = .ok (.ldc 187, 2) := by decide +kernel
theorem dX11_newOne_28 : decode cX11_newOne 28 = .ok (.invokevirtual 189, 3) := by decide +kernel
theorem dX11_newOne_31 : decode cX11_newOne 31 = .ok (.ifCond .ne 9, 3) := by decide +kernel
theorem dX11_newOne_34 : decode cX11_newOne 34 = .ok (.aload_n 0, 1) := by decide +kernel
theorem dX11_newOne_35 : decode cX11_newOne 35 = .ok (.iconst 2, 1) := by decide +kernel
theorem dX11_newOne_36 : decode cX11_newOne 36 = .ok (.invokevirtual 176, 3) := by decide +kernel
theorem dX11_newOne_39 : decode cX11_newOne 39 = .ok (.ireturn, 1) := by decide +kernel
theorem dX11_newOne_40 : decode cX11_newOne 40 = .ok (.aload_n 0, 1) := by decide +kernel
theorem dX11_newOne_41 : decode cX11_newOne 41 = .ok (.bipush 84, 2) := by decide +kernel
theorem dX11_newOne_43 : decode cX11_newOne 43 = .ok (.aload_n 0, 1) := by decide +kernel
theorem dX11_newOne_44 : decode cX11_newOne 44 = .ok (.getfield 7, 3) := by decide +kernel
theorem dX11_newOne_47 : decode cX11_newOne 47 = .ok (.sipush 2096, 3) := by decide +kernel
theorem dX11_newOne_50 : decode cX11_newOne 50 = .ok (.iaload, 1) := by decide +kernel
theorem dX11_newOne_51 : decode cX11_newOne 51 = .ok (.invokevirtual 193, 3) := by decide +kernel
theorem dX11_newOne_54 : decode cX11_newOne 54 = .ok (.iconst (-1), 1) := by decide +kernel
theorem dX11_newOne_55 : decode cX11_newOne 55 = .ok (.if_icmp .ne 39, 3) := by decide +kernel
theorem dX11_newOne_58 : decode cX11_newOne 58 = .ok (.aload_n 0, 1) := by decide +kernel
theorem dX11_newOne_59 : decode cX11_newOne 59 = .ok (.bipush 91, 2) := by decide +kernel
theorem dX11_newOne_61 : decode cX11_newOne 61 = .ok (.aload_n 0, 1) := by decide +kernel
theorem dX11_newOne_62 : decode cX11_newOne 62 = .ok (.getfield 7, 3) := by decide +kernel
theorem dX11_newOne_65 : decode cX11_newOne 65 = .ok (.sipush 2097, 3) := by decide +kernel
theorem dX11_newOne_68 : decode cX11_newOne 68 = .ok (.iaload, 1) := by decide +kernel
theorem dX11_newOne_69 : decode cX11_newOne 69 = .ok (.invokevirtual 193, 3) := by decide +kernel
theorem dX11_newOne_72 : decode cX11_newOne 72 = .ok (.iconst (-1), 1) := by decide +kernel
theorem dX11_newOne_73 : decode cX11_newOne 73 = .ok (.if_icmp .ne 21, 3) := by decide +kernel
theorem dX11_newOne_76 : decode cX11_newOne 76 = .ok (.aload_n 0, 1) := by decide +kernel
theorem dX11_newOne_77 : decode cX11_newOne 77 = .ok (.bipush 101, 2) := by decide +kernel
theorem dX11_newOne_79 : decode cX11_newOne 79 = .ok (.aload_n 0, 1) := by decide +kernel
theorem dX11_newOne_80 : decode cX11_newOne 80 = .ok (.getfield 7, 3) := by decide +kernel
theorem dX11_newOne_83 : decode cX11_newOne 83 = .ok (.sipush 2098, 3) := by decide +kernel
theorem dX11_newOne_86 : decode cX11_newOne 86 = .ok (.iaload, 1) := by decide +kernel
theorem dX11_newOne_87 : decode cX11_newOne 87 = .ok (.invokevirtual 193, 3) := by decide +kernel
theorem dX11_newOne_90 : decode cX11_newOne 90 = .ok (.iconst (-1), 1) := by decide +kernel
theorem dX11_newOne_91 : decode cX11_newOne 91 = .ok (.if_icmp .eq 9, 3) := by decide +kernel
theorem dX11_newOne_94 : decode cX11_newOne 94 = .ok (.aload_n 0, 1) := by decide +kernel
theorem dX11_newOne_95 : decode cX11_newOne 95 = .ok (.iconst 3, 1) := by decide +kernel
theorem dX11_newOne_96 : decode cX11_newOne 96 = .ok (.invokevirtual 176, 3) := by decide +kernel
theorem dX11_newOne_99 : decode cX11_newOne 99 = .ok (.ireturn, 1) := by decide +kernel
theorem dX11_newOne_100 : decode cX11_newOne 100 = .ok (.aload_n 0, 1) := by decide +kernel
theorem dX11_newOne_101 : decode cX11_newOne 101 = .ok (.getfield 13, 3) := by decide +kernel
theorem dX11_newOne_104 : decode cX11_newOne 104 = .ok (.bipush 84, 2) := by decide +kernel
theorem dX11_newOne_106 : decode cX11_newOne 106 = .ok (.iload_n 3, 1) := by decide +kernel
theorem dX11_newOne_107 : decode cX11_newOne 107 = .ok (.iadd, 1) := by decide +kernel
theorem dX11_newOne_108 : decode cX11_newOne 108 = .ok (.aload_n 0, 1) := by decide +kernel
theorem dX11_newOne_109 : decode cX11_newOne 109 = .ok (.getfield 7, 3) := by decide +kernel
theorem dX11_newOne_112 : decode cX11_newOne 112 = .ok (.sipush 2096, 3) := by decide +kernel
theorem dX11_newOne_115 : decode cX11_newOne 115 = .ok (.iload_n 1, 1) := by decide +kernel
theorem dX11_newOne_116 : decode cX11_newOne 116 = .ok (.iadd, 1) := by decide +kernel
theorem dX11_newOne_117 : decode cX11_newOne 117 = .ok (.iaload, 1) := by decide +kernel
theorem dX11_newOne_118 : decode cX11_newOne 118 = .ok (.iadd, 1) := by decide +kernel
theorem dX11_newOne_119 : decode cX11_newOne 119 = .ok (.aload_n 0, 1) := by decide +kernel
theorem dX11_newOne_120 : decode cX11_newOne 120 = .ok (.invokevirtual 183, 3) := by decide +kernel
theorem dX11_newOne_123 : decode cX11_newOne 123 = .ok (.lastore, 1) := by decide +kernel
theorem dX11_newOne_124 : decode cX11_newOne 124 = .ok (.aload_n 0, 1) := by decide +kernel
theorem dX11_newOne_125 : decode cX11_newOne 125 = .ok (.invokevirtual 170, 3) := by decide +kernel
theorem dX11_newOne_128 : decode cX11_newOne 128 = .ok (.iconst 1, 1) := by decide +kernel
theorem dX11_newOne_129 : decode cX11_newOne 129 = .ok (.ireturn, 1) := by decide +kernel
theorem dX11_oldOne_0 : decode cX11_oldOne 0 = .ok (.aload_n 0, 1) := by decide +kernel
theorem dX11_oldOne_1 : decode cX11_oldOne 1 = .ok (.ldc 187, 2) := by decide +kernel
theorem dX11_oldOne_3 : decode cX11_oldOne 3 = .ok (.invokevirtual 189, 3) := by decide +kernel
theorem dX11_oldOne_6 : decode cX11_oldOne 6 = .ok (.ifCond .ne 9, 3) := by decide +kernel
theorem dX11_oldOne_9 : decode cX11_oldOne 9 = .ok (.aload_n 0, 1) := by decide +kernel
theorem dX11_oldOne_10 : decode cX11_oldOne 10 = .ok (.iconst 2, 1) := by decide +kernel
theorem dX11_oldOne_11 : decode cX11_oldOne 11 = .ok (.invokevirtual 176, 3) := by decide +kernel
theorem dX11_oldOne_14 : decode cX11_oldOne 14 = .ok (.ireturn, 1) := by decide +kernel
theorem dX11_oldOne_15 : decode cX11_oldOne 15 = .ok (.aload_n 0, 1) := by decide +kernel
theorem dX11_oldOne_16 : decode cX11_oldOne 16 = .ok (.getfield 7, 3) := by decide +kernel
theorem dX11_oldOne_19 : decode cX11_oldOne 19 = .ok (.iload_n 3, 1) := by decide +kernel
theorem dX11_oldOne_20 : decode cX11_oldOne 20 = .ok (.aload_n 0, 1) := by decide +kernel
theorem dX11_oldOne_21 : decode cX11_oldOne 21 = .ok (.iload_n 1, 1) := by decide +kernel
theorem dX11_oldOne_22 : decode cX11_oldOne 22 = .ok (.iload_n 2, 1) := by decide +kernel
theorem dX11_oldOne_23 : decode cX11_oldOne 23 = .ok (.invokevirtual 193, 3) := by decide +kernel
theorem dX11_oldOne_26 : decode cX11_oldOne 26 = .ok (.iastore, 1) := by decide +kernel
theorem dX11_oldOne_27 : decode cX11_oldOne 27 = .ok (.aload_n 0, 1) := by decide +kernel
theorem dX11_oldOne_28 : decode cX11_oldOne 28 = .ok (.getfield 7, 3) := by decide +kernel
theorem dX11_oldOne_31 : decode cX11_oldOne 31 = .ok (.iload_n 3, 1) := by decide +kernel
theorem dX11_oldOne_32 : decode cX11_oldOne 32 = .ok (.iaload, 1) := by decide +kernel
theorem dX11_oldOne_33 : decode cX11_oldOne 33 = .ok (.iconst (-1), 1) := by decide +kernel
theorem dX11_oldOne_34 : decode cX11_oldOne 34 = .ok (.if_icmp .ne 9, 3) := by decide +kernel
theorem dX11_oldOne_37 : decode cX11_oldOne 37 = .ok (.aload_n 0, 1) := by decide +kernel
theorem dX11_oldOne_38 : decode cX11_oldOne 38 = .ok (.iconst 3, 1) := by decide +kernel
theorem dX11_oldOne_39 : decode cX11_oldOne 39 = .ok (.invokevirtual 176, 3) := by decide +kernel
theorem dX11_oldOne_42 : decode cX11_oldOne 42 = .ok (.ireturn, 1) := by decide +kernel
theorem dX11_oldOne_43 : decode cX11_oldOne 43 = .ok (.aload_n 0, 1) := by decide +kernel
theorem dX11_oldOne_44 : decode cX11_oldOne 44 = .ok (.invokevirtual 170, 3) := by decide +kernel
theorem dX11_oldOne_47 : decode cX11_oldOne 47 = .ok (.iconst 1, 1) := by decide +kernel
theorem dX11_oldOne_48 : decode cX11_oldOne 48 = .ok (.ireturn, 1) := by decide +kernel
theorem dX11_aRoom_0 : decode cX11_aRoom 0 = .ok (.sipush 2102, 3) := by decide +kernel
theorem dX11_aRoom_3 : decode cX11_aRoom 3 = .ok (.bipush 7, 2) := by decide +kernel
theorem dX11_aRoom_5 : decode cX11_aRoom 5 = .ok (.aload_n 0, 1) := by decide +kernel
theorem dX11_aRoom_6 : decode cX11_aRoom 6 = .ok (.getfield 7, 3) := by decide +kernel
theorem dX11_aRoom_9 : decode cX11_aRoom 9 = .ok (.sipush 2096, 3) := by decide +kernel
theorem dX11_aRoom_12 : decode cX11_aRoom 12 = .ok (.iaload, 1) := by decide +kernel
theorem dX11_aRoom_13 : decode cX11_aRoom 13 = .ok (.imul, 1) := by decide +kernel
theorem dX11_aRoom_14 : decode cX11_aRoom 14 = .ok (.iadd, 1) := by decide +kernel
theorem dX11_aRoom_15 : decode cX11_aRoom 15 = .ok (.istore_n 1, 1) := by decide +kernel
theorem dX11_aRoom_16 : decode cX11_aRoom 16 = .ok (.aload_n 0, 1) := by decide +kernel
theorem dX11_aRoom_17 : decode cX11_aRoom 17 = .ok (.iconst 0, 1) := by decide +kernel
theorem dX11_aRoom_18 : decode cX11_aRoom 18 = .ok (.bipush 7, 2) := by decide +kernel
theorem dX11_aRoom_20 : decode cX11_aRoom 20 = .ok (.iconst 0, 1) := by decide +kernel
theorem dX11_aRoom_21 : decode cX11_aRoom 21 = .ok (.invokevirtual 196, 3) := by decide +kernel
theorem dX11_aRoom_24 : decode cX11_aRoom 24 = .ok (.ifCond .eq 25, 3) := by decide +kernel
theorem dX11_aRoom_27 : decode cX11_aRoom 27 = .ok (.aload_n 0, 1) := by decide +kernel
theorem dX11_aRoom_28 : decode cX11_aRoom 28 = .ok (.ldc 187, 2) := by decide +kernel
theorem dX11_aRoom_30 : decode cX11_aRoom 30 = .ok (.bipush 6, 2) := by decide +kernel
theorem dX11_aRoom_32 : decode cX11_aRoom 32 = .ok (.invokevirtual 200, 3) := by decide +kernel
theorem dX11_aRoom_35 : decode cX11_aRoom 35 = .ok (.ifCond .eq 14, 3) := by decide +kernel
theorem dX11_aRoom_38 : decode cX11_aRoom 38 = .ok (.aload_n 0, 1) := by decide +kernel
theorem dX11_aRoom_39 : decode cX11_aRoom 39 = .ok (.iload_n 1, 1) := by decide +kernel
theorem dX11_aRoom_40 : decode cX11_aRoom 40 = .ok (.iconst 0, 1) := by decide +kernel
theorem dX11_aRoom_41 : decode cX11_aRoom 41 = .ok (.bipush 99, 2) := by decide +kernel
theorem dX11_aRoom_43 : decode cX11_aRoom 43 = .ok (.invokevirtual 204, 3) := by decide +kernel
theorem dX11_aRoom_46 : decode cX11_aRoom 46 = .ok (.ifCond .ne 5, 3) := by decide +kernel
theorem dX11_aRoom_49 : decode cX11_aRoom 49 = .ok (.iconst 0, 1) := by decide +kernel
theorem dX11_aRoom_50 : decode cX11_aRoom 50 = .ok (.ireturn, 1) := by decide +kernel
theorem dX11_aRoom_51 : decode cX11_aRoom 51 = .ok (.aload_n 0, 1) := by decide +kernel
theorem dX11_aRoom_52 : decode cX11_aRoom 52 = .ok (.getfield 7, 3) := by decide +kernel
theorem dX11_aRoom_55 : decode cX11_aRoom 55 = .ok (.iload_n 1, 1) := by decide +kernel
theorem dX11_aRoom_56 : decode cX11_aRoom 56 = .ok (.iconst 1, 1) := by decide +kernel
theorem dX11_aRoom_57 : decode cX11_aRoom 57 = .ok (.iadd, 1) := by decide +kernel
theorem dX11_aRoom_58 : decode cX11_aRoom 58 = .ok (.iconst 1, 1) := by decide +kernel
theorem dX11_aRoom_59 : decode cX11_aRoom 59 = .ok (.iastore, 1) := by decide +kernel
theorem dX11_aRoom_60 : decode cX11_aRoom 60 = .ok (.aload_n 0, 1) := by decide +kernel
theorem dX11_aRoom_61 : decode cX11_aRoom 61 = .ok (.getfield 7, 3) := by decide +kernel
theorem dX11_aRoom_64 : decode cX11_aRoom 64 = .ok (.iload_n 1, 1) := by decide +kernel
theorem dX11_aRoom_65 : decode cX11_aRoom 65 = .ok (.iconst 2, 1) := by decide +kernel
theorem dX11_aRoom_66 : decode cX11_aRoom 66 = .ok (.iadd, 1) := by decide +kernel
theorem dX11_aRoom_67 : decode cX11_aRoom 67 = .ok (.bipush 10, 2) := by decide +kernel
theorem dX11_aRoom_69 : decode cX11_aRoom 69 = .ok (.iastore, 1) := by decide +kernel
theorem dX11_aRoom_70 : decode cX11_aRoom 70 = .ok (.aload_n 0, 1) := by decide +kernel
theorem dX11_aRoom_71 : decode cX11_aRoom 71 = .ok (.bipush 7, 2) := by decide +kernel
theorem dX11_aRoom_73 : decode cX11_aRoom 73 = .ok (.invokevirtual 207, 3) := by decide +kernel
theorem dX11_aRoom_76 : decode cX11_aRoom 76 = .ok (.ifCond .eq 16, 3) := by decide +kernel
theorem dX11_aRoom_79 : decode cX11_aRoom 79 = .ok (.aload_n 0, 1) := by decide +kernel
theorem dX11_aRoom_80 : decode cX11_aRoom 80 = .ok (.iload_n 1, 1) := by decide +kernel
theorem dX11_aRoom_81 : decode cX11_aRoom 81 = .ok (.iconst 1, 1) := by decide +kernel
theorem dX11_aRoom_82 : decode cX11_aRoom 82 = .ok (.iadd, 1) := by decide +kernel
theorem dX11_aRoom_83 : decode cX11_aRoom 83 = .ok (.iconst 1, 1) := by decide +kernel
theorem dX11_aRoom_84 : decode cX11_aRoom 84 = .ok (.bipush 20, 2) := by decide +kernel
theorem dX11_aRoom_86 : decode cX11_aRoom 86 = .ok (.invokevirtual 204, 3) := by decide +kernel
theorem dX11_aRoom_89 : decode cX11_aRoom 89 = .ok (.ifCond .eq 48, 3) := by decide +kernel
theorem dX11_aRoom_92 : decode cX11_aRoom 92 = .ok (.aload_n 0, 1) := by decide +kernel
theorem dX11_aRoom_93 : decode cX11_aRoom 93 = .ok (.bipush 8, 2) := by decide +kernel
theorem dX11_aRoom_95 : decode cX11_aRoom 95 = .ok (.invokevirtual 207, 3) := by decide +kernel
theorem dX11_aRoom_98 : decode cX11_aRoom 98 = .ok (.ifCond .eq 16, 3) := by decide +kernel
theorem dX11_aRoom_101 : decode cX11_aRoom 101 = .ok (.aload_n 0, 1) := by decide +kernel
theorem dX11_aRoom_102 : decode cX11_aRoom 102 = .ok (.iload_n 1, 1) := by decide +kernel
theorem dX11_aRoom_103 : decode cX11_aRoom 103 = .ok (.iconst 2, 1) := by decide +kernel
theorem dX11_aRoom_104 : decode cX11_aRoom 104 = .ok (.iadd, 1) := by decide +kernel
theorem dX11_aRoom_105 : decode cX11_aRoom 105 = .ok (.iconst 1, 1) := by decide +kernel
theorem dX11_aRoom_106 : decode cX11_aRoom 106 = .ok (.bipush 99, 2) := by decide +kernel
theorem dX11_aRoom_108 : decode cX11_aRoom 108 = .ok (.invokevirtual 204, 3) := by decide +kernel
theorem dX11_aRoom_111 : decode cX11_aRoom 111 = .ok (.ifCond .eq 26, 3) := by decide +kernel
theorem dX11_aRoom_114 : decode cX11_aRoom 114 = .ok (.aload_n 0, 1) := by decide +kernel
theorem dX11_aRoom_115 : decode cX11_aRoom 115 = .ok (.bipush 9, 2) := by decide +kernel
theorem dX11_aRoom_117 : decode cX11_aRoom 117 = .ok (.invokevirtual 207, 3) := by decide +kernel
theorem dX11_aRoom_120 : decode cX11_aRoom 120 = .ok (.ifCond .eq 19, 3) := by decide +kernel
theorem dX11_aRoom_123 : decode cX11_aRoom 123 = .ok (.aload_n 0, 1) := by decide +kernel
theorem dX11_aRoom_124 : decode cX11_aRoom 124 = .ok (.iload_n 1, 1) := by decide +kernel
theorem dX11_aRoom_125 : decode cX11_aRoom 125 = .ok (.iconst 4, 1) := by decide +kernel
theorem dX11_aRoom_126 : decode cX11_aRoom 126 = .ok (.iadd, 1) := by decide +kernel
theorem dX11_aRoom_127 : decode cX11_aRoom 127 = .ok (.iconst 0, 1) := by decide +kernel
theorem dX11_aRoom_128 : decode cX11_aRoom 128 = .ok (.sipush 999, 3) := by decide +kernel
theorem dX11_aRoom_131 : decode cX11_aRoom 131 = .ok (.invokevirtual 204, 3) := by decide +kernel
theorem dX11_aRoom_134 : decode cX11_aRoom 134 = .ok (.ifCond .ne 5, 3) := by decide +kernel
theorem dX11_aRoom_137 : decode cX11_aRoom 137 = .ok (.iconst 0, 1) := by decide +kernel
theorem dX11_aRoom_138 : decode cX11_aRoom 138 = .ok (.ireturn, 1) := by decide +kernel
theorem dX11_aRoom_139 : decode cX11_aRoom 139 = .ok (.aload_n 0, 1) := by decide +kernel
theorem dX11_aRoom_140 : decode cX11_aRoom 140 = .ok (.getfield 7, 3) := by decide +kernel
theorem dX11_aRoom_143 : decode cX11_aRoom 143 = .ok (.sipush 2096, 3) := by decide +kernel
theorem dX11_aRoom_146 : decode cX11_aRoom 146 = .ok (.dup2, 1) := by decide +kernel
theorem dX11_aRoom_147 : decode cX11_aRoom 147 = .ok (.iaload, 1) := by decide +kernel
theorem dX11_aRoom_148 : decode cX11_aRoom 148 = .ok (.iconst 1, 1) := by decide +kernel
theorem dX11_aRoom_149 : decode cX11_aRoom 149 = .ok (.iadd, 1) := by decide +kernel
theorem dX11_aRoom_150 : decode cX11_aRoom 150 = .ok (.iastore, 1) := by decide +kernel
theorem dX11_aRoom_151 : decode cX11_aRoom 151 = .ok (.iconst 1, 1) := by decide +kernel
theorem dX11_aRoom_152 : decode cX11_aRoom 152 = .ok (.ireturn, 1) := by decide +kernel
theorem dX11_endTo_0 : decode cX11_endTo 0 = .ok (.aload_n 0, 1) := by decide +kernel
theorem dX11_endTo_1 : decode cX11_endTo 1 = .ok (.ldc 187, 2) := by decide +kernel
theorem dX11_endTo_3 : decode cX11_endTo 3 = .ok (.invokevirtual 179, 3) := by decide +kernel
theorem dX11_endTo_6 : decode cX11_endTo 6 = .ok (.bipush 16, 2) := by decide +kernel
theorem dX11_endTo_8 : decode cX11_endTo 8 = .ok (.if_icmp .eq 19, 3) := by decide +kernel
theorem dX11_endTo_11 : decode cX11_endTo 11 = .ok (.aload_n 0, 1) := by decide +kernel
theorem dX11_endTo_12 : decode cX11_endTo 12 = .ok (.bipush 84, 2) := by decide +kernel
theorem dX11_endTo_14 : decode cX11_endTo 14 = .ok (.aload_n 0, 1) := by decide +kernel
theorem dX11_endTo_15 : decode cX11_endTo 15 = .ok (.getfield 7, 3) := by decide +kernel
theorem dX11_endTo_18 : decode cX11_endTo 18 = .ok (.sipush 2096, 3) := by decide +kernel
theorem dX11_endTo_21 : decode cX11_endTo 21 = .ok (.iaload, 1) := by decide +kernel
theorem dX11_endTo_22 : decode cX11_endTo 22 = .ok (.iload_n 1, 1) := by decide +kernel
theorem dX11_endTo_23 : decode cX11_endTo 23 = .ok (.invokevirtual 210, 3) := by decide +kernel
theorem dX11_endTo_26 : decode cX11_endTo 26 = .ok (.ireturn, 1) := by decide +kernel
theorem dX11_endTo_27 : decode cX11_endTo 27 = .ok (.aload_n 0, 1) := by decide +kernel
theorem dX11_endTo_28 : decode cX11_endTo 28 = .ok (.getfield 7, 3) := by decide +kernel
theorem dX11_endTo_31 : decode cX11_endTo 31 = .ok (.iload_n 1, 1) := by decide +kernel
theorem dX11_endTo_32 : decode cX11_endTo 32 = .ok (.iconst (-1), 1) := by decide +kernel
theorem dX11_endTo_33 : decode cX11_endTo 33 = .ok (.iastore, 1) := by decide +kernel
theorem dX11_endTo_34 : decode cX11_endTo 34 = .ok (.aload_n 0, 1) := by decide +kernel
theorem dX11_endTo_35 : decode cX11_endTo 35 = .ok (.invokevirtual 170, 3) := by decide +kernel
theorem dX11_endTo_38 : decode cX11_endTo 38 = .ok (.iconst 1, 1) := by decide +kernel
theorem dX11_endTo_39 : decode cX11_endTo 39 = .ok (.ireturn, 1) := by decide +kernel
theorem dX11_aDoor_0 : decode cX11_aDoor 0 = .ok (.sipush 2151, 3) := by decide +kernel
theorem dX11_aDoor_3 : decode cX11_aDoor 3 = .ok (.bipush 8, 2) := by decide +kernel
theorem dX11_aDoor_5 : decode cX11_aDoor 5 = .ok (.aload_n 0, 1) := by decide +kernel
theorem dX11_aDoor_6 : decode cX11_aDoor 6 = .ok (.getfield 7, 3) := by decide +kernel
theorem dX11_aDoor_9 : decode cX11_aDoor 9 = .ok (.sipush 2097, 3) := by decide +kernel
theorem dX11_aDoor_12 : decode cX11_aDoor 12 = .ok (.iaload, 1) := by decide +kernel
theorem dX11_aDoor_13 : decode cX11_aDoor 13 = .ok (.imul, 1) := by decide +kernel
theorem dX11_aDoor_14 : decode cX11_aDoor 14 = .ok (.iadd, 1) := by decide +kernel
theorem dX11_aDoor_15 : decode cX11_aDoor 15 = .ok (.istore_n 1, 1) := by decide +kernel
theorem dX11_aDoor_16 : decode cX11_aDoor 16 = .ok (.aload_n 0, 1) := by decide +kernel
theorem dX11_aDoor_17 : decode cX11_aDoor 17 = .ok (.iconst 1, 1) := by decide +kernel
theorem dX11_aDoor_18 : decode cX11_aDoor 18 = .ok (.bipush 10, 2) := by decide +kernel
theorem dX11_aDoor_20 : decode cX11_aDoor 20 = .ok (.bipush 7, 2) := by decide +kernel
theorem dX11_aDoor_22 : decode cX11_aDoor 22 = .ok (.invokevirtual 196, 3) := by decide +kernel
theorem dX11_aDoor_25 : decode cX11_aDoor 25 = .ok (.ifCond .eq 33, 3) := by decide +kernel
theorem dX11_aDoor_28 : decode cX11_aDoor 28 = .ok (.aload_n 0, 1) := by decide +kernel
theorem dX11_aDoor_29 : decode cX11_aDoor 29 = .ok (.ldc 187, 2) := by decide +kernel
theorem dX11_aDoor_31 : decode cX11_aDoor 31 = .ok (.bipush 10, 2) := by decide +kernel
theorem dX11_aDoor_33 : decode cX11_aDoor 33 = .ok (.invokevirtual 200, 3) := by decide +kernel
theorem dX11_aDoor_36 : decode cX11_aDoor 36 = .ok (.ifCond .eq 22, 3) := by decide +kernel
theorem dX11_aDoor_39 : decode cX11_aDoor 39 = .ok (.aload_n 0, 1) := by decide +kernel
theorem dX11_aDoor_40 : decode cX11_aDoor 40 = .ok (.iload_n 1, 1) := by decide +kernel
theorem dX11_aDoor_41 : decode cX11_aDoor 41 = .ok (.invokevirtual 213, 3) := by decide +kernel
theorem dX11_aDoor_44 : decode cX11_aDoor 44 = .ok (.ifCond .eq 14, 3) := by decide +kernel
theorem dX11_aDoor_47 : decode cX11_aDoor 47 = .ok (.aload_n 0, 1) := by decide +kernel
theorem dX11_aDoor_48 : decode cX11_aDoor 48 = .ok (.ldc 187, 2) := by decide +kernel
theorem dX11_aDoor_50 : decode cX11_aDoor 50 = .ok (.bipush 11, 2) := by decide +kernel
theorem dX11_aDoor_52 : decode cX11_aDoor 52 = .ok (.invokevirtual 200, 3) := by decide +kernel
theorem dX11_aDoor_55 : decode cX11_aDoor 55 = .ok (.ifCond .ne 5, 3) := by decide +kernel
theorem dX11_aDoor_58 : decode cX11_aDoor 58 = .ok (.iconst 0, 1) := by decide +kernel
theorem dX11_aDoor_59 : decode cX11_aDoor 59 = .ok (.ireturn, 1) := by decide +kernel
theorem dX11_aDoor_60 : decode cX11_aDoor 60 = .ok (.aload_n 0, 1) := by decide +kernel
theorem dX11_aDoor_61 : decode cX11_aDoor 61 = .ok (.getfield 7, 3) := by decide +kernel
theorem dX11_aDoor_64 : decode cX11_aDoor 64 = .ok (.iload_n 1, 1) := by decide +kernel
theorem dX11_aDoor_65 : decode cX11_aDoor 65 = .ok (.iaload, 1) := by decide +kernel
theorem dX11_aDoor_66 : decode cX11_aDoor 66 = .ok (.iconst (-1), 1) := by decide +kernel
theorem dX11_aDoor_67 : decode cX11_aDoor 67 = .ok (.if_icmp .ne 22, 3) := by decide +kernel
theorem dX11_aDoor_70 : decode cX11_aDoor 70 = .ok (.aload_n 0, 1) := by decide +kernel
theorem dX11_aDoor_71 : decode cX11_aDoor 71 = .ok (.ldc 187, 2) := by decide +kernel
theorem dX11_aDoor_73 : decode cX11_aDoor 73 = .ok (.invokevirtual 179, 3) := by decide +kernel
theorem dX11_aDoor_76 : decode cX11_aDoor 76 = .ok (.bipush 16, 2) := by decide +kernel
theorem dX11_aDoor_78 : decode cX11_aDoor 78 = .ok (.if_icmp .ne 7, 3) := by decide +kernel
theorem dX11_aDoor_81 : decode cX11_aDoor 81 = .ok (.iconst 1, 1) := by decide +kernel
theorem dX11_aDoor_82 : decode cX11_aDoor 82 = .ok (.goto 44, 3) := by decide +kernel
theorem dX11_aDoor_85 : decode cX11_aDoor 85 = .ok (.iconst 0, 1) := by decide +kernel
theorem dX11_aDoor_86 : decode cX11_aDoor 86 = .ok (.goto 40, 3) := by decide +kernel
theorem dX11_aDoor_89 : decode cX11_aDoor 89 = .ok (.aload_n 0, 1) := by decide +kernel
theorem dX11_aDoor_90 : decode cX11_aDoor 90 = .ok (.ldc 187, 2) := by decide +kernel
theorem dX11_aDoor_92 : decode cX11_aDoor 92 = .ok (.invokevirtual 189, 3) := by decide +kernel
theorem dX11_aDoor_95 : decode cX11_aDoor 95 = .ok (.ifCond .eq 30, 3) := by decide +kernel
theorem dX11_aDoor_98 : decode cX11_aDoor 98 = .ok (.aload_n 0, 1) := by decide +kernel
theorem dX11_aDoor_99 : decode cX11_aDoor 99 = .ok (.bipush 84, 2) := by decide +kernel
theorem dX11_aDoor_101 : decode cX11_aDoor 101 = .ok (.aload_n 0, 1) := by decide +kernel
theorem dX11_aDoor_102 : decode cX11_aDoor 102 = .ok (.getfield 7, 3) := by decide +kernel
theorem dX11_aDoor_105 : decode cX11_aDoor 105 = .ok (.sipush 2096, 3) := by decide +kernel
theorem dX11_aDoor_108 : decode cX11_aDoor 108 = .ok (.iaload, 1) := by decide +kernel
theorem dX11_aDoor_109 : decode cX11_aDoor 109 = .ok (.invokevirtual 193, 3) := by decide +kernel
theorem dX11_aDoor_112 : decode cX11_aDoor 112 = .ok (.aload_n 0, 1) := by decide +kernel
theorem dX11_aDoor_113 : decode cX11_aDoor 113 = .ok (.getfield 7, 3) := by decide +kernel
theorem dX11_aDoor_116 : decode cX11_aDoor 116 = .ok (.iload_n 1, 1) := by decide +kernel
theorem dX11_aDoor_117 : decode cX11_aDoor 117 = .ok (.iaload, 1) := by decide +kernel
theorem dX11_aDoor_118 : decode cX11_aDoor 118 = .ok (.if_icmp .ne 7, 3) := by decide +kernel
theorem dX11_aDoor_121 : decode cX11_aDoor 121 = .ok (.iconst 1, 1) := by decide +kernel
theorem dX11_aDoor_122 : decode cX11_aDoor 122 = .ok (.goto 4, 3) := by decide +kernel
theorem dX11_aDoor_125 : decode cX11_aDoor 125 = .ok (.iconst 0, 1) := by decide +kernel
theorem dX11_aDoor_126 : decode cX11_aDoor 126 = .ok (.istore_n 2, 1) := by decide +kernel
theorem dX11_aDoor_127 : decode cX11_aDoor 127 = .ok (.iload_n 2, 1) := by decide +kernel
theorem dX11_aDoor_128 : decode cX11_aDoor 128 = .ok (.ifCond .eq 9, 3) := by decide +kernel
theorem dX11_aDoor_131 : decode cX11_aDoor 131 = .ok (.aload_n 0, 1) := by decide +kernel
theorem dX11_aDoor_132 : decode cX11_aDoor 132 = .ok (.iconst 5, 1) := by decide +kernel
theorem dX11_aDoor_133 : decode cX11_aDoor 133 = .ok (.invokevirtual 176, 3) := by decide +kernel
theorem dX11_aDoor_136 : decode cX11_aDoor 136 = .ok (.ireturn, 1) := by decide +kernel
theorem dX11_aDoor_137 : decode cX11_aDoor 137 = .ok (.aload_n 0, 1) := by decide +kernel
theorem dX11_aDoor_138 : decode cX11_aDoor 138 = .ok (.iload_n 1, 1) := by decide +kernel
theorem dX11_aDoor_139 : decode cX11_aDoor 139 = .ok (.iconst 1, 1) := by decide +kernel
theorem dX11_aDoor_140 : decode cX11_aDoor 140 = .ok (.iadd, 1) := by decide +kernel
theorem dX11_aDoor_141 : decode cX11_aDoor 141 = .ok (.invokevirtual 213, 3) := by decide +kernel
theorem dX11_aDoor_144 : decode cX11_aDoor 144 = .ok (.ifCond .eq 27, 3) := by decide +kernel
theorem dX11_aDoor_147 : decode cX11_aDoor 147 = .ok (.aload_n 0, 1) := by decide +kernel
theorem dX11_aDoor_148 : decode cX11_aDoor 148 = .ok (.ldc 187, 2) := by decide +kernel
theorem dX11_aDoor_150 : decode cX11_aDoor 150 = .ok (.bipush 12, 2) := by decide +kernel
theorem dX11_aDoor_152 : decode cX11_aDoor 152 = .ok (.invokevirtual 200, 3) := by decide +kernel
theorem dX11_aDoor_155 : decode cX11_aDoor 155 = .ok (.ifCond .eq 16, 3) := by decide +kernel
theorem dX11_aDoor_158 : decode cX11_aDoor 158 = .ok (.aload_n 0, 1) := by decide +kernel
theorem dX11_aDoor_159 : decode cX11_aDoor 159 = .ok (.iload_n 1, 1) := by decide +kernel
theorem dX11_aDoor_160 : decode cX11_aDoor 160 = .ok (.iconst 2, 1) := by decide +kernel
theorem dX11_aDoor_161 : decode cX11_aDoor 161 = .ok (.iadd, 1) := by decide +kernel
theorem dX11_aDoor_162 : decode cX11_aDoor 162 = .ok (.iconst 0, 1) := by decide +kernel
theorem dX11_aDoor_163 : decode cX11_aDoor 163 = .ok (.bipush 99, 2) := by decide +kernel
theorem dX11_aDoor_165 : decode cX11_aDoor 165 = .ok (.invokevirtual 204, 3) := by decide +kernel
theorem dX11_aDoor_168 : decode cX11_aDoor 168 = .ok (.ifCond .ne 5, 3) := by decide +kernel
theorem dX11_aDoor_171 : decode cX11_aDoor 171 = .ok (.iconst 0, 1) := by decide +kernel
theorem dX11_aDoor_172 : decode cX11_aDoor 172 = .ok (.ireturn, 1) := by decide +kernel
theorem dX11_aDoor_173 : decode cX11_aDoor 173 = .ok (.aload_n 0, 1) := by decide +kernel
theorem dX11_aDoor_174 : decode cX11_aDoor 174 = .ok (.getfield 7, 3) := by decide +kernel
theorem dX11_aDoor_177 : decode cX11_aDoor 177 = .ok (.iload_n 1, 1) := by decide +kernel
theorem dX11_aDoor_178 : decode cX11_aDoor 178 = .ok (.iconst 3, 1) := by decide +kernel
theorem dX11_aDoor_179 : decode cX11_aDoor 179 = .ok (.iadd, 1) := by decide +kernel
theorem dX11_aDoor_180 : decode cX11_aDoor 180 = .ok (.iconst 1, 1) := by decide +kernel
theorem dX11_aDoor_181 : decode cX11_aDoor 181 = .ok (.iastore, 1) := by decide +kernel
theorem dX11_aDoor_182 : decode cX11_aDoor 182 = .ok (.aload_n 0, 1) := by decide +kernel
theorem dX11_aDoor_183 : decode cX11_aDoor 183 = .ok (.bipush 13, 2) := by decide +kernel
theorem dX11_aDoor_185 : decode cX11_aDoor 185 = .ok (.invokevirtual 207, 3) := by decide +kernel
theorem dX11_aDoor_188 : decode cX11_aDoor 188 = .ok (.ifCond .eq 16, 3) := by decide +kernel
theorem dX11_aDoor_191 : decode cX11_aDoor 191 = .ok (.aload_n 0, 1) := by decide +kernel
theorem dX11_aDoor_192 : decode cX11_aDoor 192 = .ok (.iload_n 1, 1) := by decide +kernel
theorem dX11_aDoor_193 : decode cX11_aDoor 193 = .ok (.iconst 3, 1) := by decide +kernel
theorem dX11_aDoor_194 : decode cX11_aDoor 194 = .ok (.iadd, 1) := by decide +kernel
theorem dX11_aDoor_195 : decode cX11_aDoor 195 = .ok (.iconst 1, 1) := by decide +kernel
theorem dX11_aDoor_196 : decode cX11_aDoor 196 = .ok (.bipush 9, 2) := by decide +kernel
theorem dX11_aDoor_198 : decode cX11_aDoor 198 = .ok (.invokevirtual 204, 3) := by decide +kernel
theorem dX11_aDoor_201 : decode cX11_aDoor 201 = .ok (.ifCond .eq 25, 3) := by decide +kernel
theorem dX11_aDoor_204 : decode cX11_aDoor 204 = .ok (.aload_n 0, 1) := by decide +kernel
theorem dX11_aDoor_205 : decode cX11_aDoor 205 = .ok (.bipush 14, 2) := by decide +kernel
theorem dX11_aDoor_207 : decode cX11_aDoor 207 = .ok (.invokevirtual 207, 3) := by decide +kernel
theorem dX11_aDoor_210 : decode cX11_aDoor 210 = .ok (.ifCond .eq 18, 3) := by decide +kernel
theorem dX11_aDoor_213 : decode cX11_aDoor 213 = .ok (.aload_n 0, 1) := by decide +kernel
theorem dX11_aDoor_214 : decode cX11_aDoor 214 = .ok (.iload_n 1, 1) := by decide +kernel
theorem dX11_aDoor_215 : decode cX11_aDoor 215 = .ok (.iconst 4, 1) := by decide +kernel
theorem dX11_aDoor_216 : decode cX11_aDoor 216 = .ok (.iadd, 1) := by decide +kernel
theorem dX11_aDoor_217 : decode cX11_aDoor 217 = .ok (.iconst 0, 1) := by decide +kernel
theorem dX11_aDoor_218 : decode cX11_aDoor 218 = .ok (.bipush 9, 2) := by decide +kernel
theorem dX11_aDoor_220 : decode cX11_aDoor 220 = .ok (.invokevirtual 204, 3) := by decide +kernel
theorem dX11_aDoor_223 : decode cX11_aDoor 223 = .ok (.ifCond .ne 5, 3) := by decide +kernel
theorem dX11_aDoor_226 : decode cX11_aDoor 226 = .ok (.iconst 0, 1) := by decide +kernel
theorem dX11_aDoor_227 : decode cX11_aDoor 227 = .ok (.ireturn, 1) := by decide +kernel
theorem dX11_aDoor_228 : decode cX11_aDoor 228 = .ok (.aload_n 0, 1) := by decide +kernel
theorem dX11_aDoor_229 : decode cX11_aDoor 229 = .ok (.getfield 7, 3) := by decide +kernel
theorem dX11_aDoor_232 : decode cX11_aDoor 232 = .ok (.sipush 2097, 3) := by decide +kernel
theorem dX11_aDoor_235 : decode cX11_aDoor 235 = .ok (.dup2, 1) := by decide +kernel
theorem dX11_aDoor_236 : decode cX11_aDoor 236 = .ok (.iaload, 1) := by decide +kernel
theorem dX11_aDoor_237 : decode cX11_aDoor 237 = .ok (.iconst 1, 1) := by decide +kernel
theorem dX11_aDoor_238 : decode cX11_aDoor 238 = .ok (.iadd, 1) := by decide +kernel
theorem dX11_aDoor_239 : decode cX11_aDoor 239 = .ok (.iastore, 1) := by decide +kernel
theorem dX11_aDoor_240 : decode cX11_aDoor 240 = .ok (.iconst 1, 1) := by decide +kernel
theorem dX11_aDoor_241 : decode cX11_aDoor 241 = .ok (.ireturn, 1) := by decide +kernel
theorem dX11_landPart_0 : decode cX11_landPart 0 = .ok (.sipush 2616, 3) := by decide +kernel
theorem dX11_landPart_3 : decode cX11_landPart 3 = .ok (.istore_n 1, 1) := by decide +kernel
theorem dX11_landPart_4 : decode cX11_landPart 4 = .ok (.sipush 2243, 3) := by decide +kernel
theorem dX11_landPart_7 : decode cX11_landPart 7 = .ok (.iconst 3, 1) := by decide +kernel
theorem dX11_landPart_8 : decode cX11_landPart 8 = .ok (.aload_n 0, 1) := by decide +kernel
theorem dX11_landPart_9 : decode cX11_landPart 9 = .ok (.getfield 7, 3) := by decide +kernel
theorem dX11_landPart_12 : decode cX11_landPart 12 = .ok (.sipush 2098, 3) := by decide +kernel
theorem dX11_landPart_15 : decode cX11_landPart 15 = .ok (.iaload, 1) := by decide +kernel
theorem dX11_landPart_16 : decode cX11_landPart 16 = .ok (.imul, 1) := by decide +kernel
theorem dX11_landPart_17 : decode cX11_landPart 17 = .ok (.iadd, 1) := by decide +kernel
theorem dX11_landPart_18 : decode cX11_landPart 18 = .ok (.istore_n 2, 1) := by decide +kernel
theorem dX11_landPart_19 : decode cX11_landPart 19 = .ok (.aload_n 0, 1) := by decide +kernel
theorem dX11_landPart_20 : decode cX11_landPart 20 = .ok (.ldc 187, 2) := by decide +kernel
theorem dX11_landPart_22 : decode cX11_landPart 22 = .ok (.invokevirtual 179, 3) := by decide +kernel
theorem dX11_landPart_25 : decode cX11_landPart 25 = .ok (.tableswitch 360 0 5 #[39, 47, 55, 99, 155, 236], 39) := by decide +kernel
theorem dX11_landPart_64 : decode cX11_landPart 64 = .ok (.aload_n 0, 1) := by decide +kernel
theorem dX11_landPart_65 : decode cX11_landPart 65 = .ok (.invokevirtual 216, 3) := by decide +kernel
theorem dX11_landPart_68 : decode cX11_landPart 68 = .ok (.istore_n 3, 1) := by decide +kernel
theorem dX11_landPart_69 : decode cX11_landPart 69 = .ok (.goto 322, 3) := by decide +kernel
theorem dX11_landPart_72 : decode cX11_landPart 72 = .ok (.aload_n 0, 1) := by decide +kernel
theorem dX11_landPart_73 : decode cX11_landPart 73 = .ok (.invokevirtual 220, 3) := by decide +kernel
theorem dX11_landPart_76 : decode cX11_landPart 76 = .ok (.istore_n 3, 1) := by decide +kernel
theorem dX11_landPart_77 : decode cX11_landPart 77 = .ok (.goto 314, 3) := by decide +kernel
theorem dX11_landPart_80 : decode cX11_landPart 80 = .ok (.aload_n 0, 1) := by decide +kernel
theorem dX11_landPart_81 : decode cX11_landPart 81 = .ok (.invokevirtual 170, 3) := by decide +kernel
theorem dX11_landPart_84 : decode cX11_landPart 84 = .ok (.aload_n 0, 1) := by decide +kernel
theorem dX11_landPart_85 : decode cX11_landPart 85 = .ok (.iload_n 1, 1) := by decide +kernel
theorem dX11_landPart_86 : decode cX11_landPart 86 = .ok (.iconst 0, 1) := by decide +kernel
theorem dX11_landPart_87 : decode cX11_landPart 87 = .ok (.bipush 11, 2) := by decide +kernel
theorem dX11_landPart_89 : decode cX11_landPart 89 = .ok (.invokevirtual 204, 3) := by decide +kernel
theorem dX11_landPart_92 : decode cX11_landPart 92 = .ok (.ifCond .eq 27, 3) := by decide +kernel
theorem dX11_landPart_95 : decode cX11_landPart 95 = .ok (.aload_n 0, 1) := by decide +kernel
theorem dX11_landPart_96 : decode cX11_landPart 96 = .ok (.sipush 2231, 3) := by decide +kernel
theorem dX11_landPart_99 : decode cX11_landPart 99 = .ok (.aload_n 0, 1) := by decide +kernel
theorem dX11_landPart_100 : decode cX11_landPart 100 = .ok (.getfield 7, 3) := by decide +kernel
theorem dX11_landPart_103 : decode cX11_landPart 103 = .ok (.iload_n 1, 1) := by decide +kernel
theorem dX11_landPart_104 : decode cX11_landPart 104 = .ok (.iaload, 1) := by decide +kernel
theorem dX11_landPart_105 : decode cX11_landPart 105 = .ok (.iadd, 1) := by decide +kernel
theorem dX11_landPart_106 : decode cX11_landPart 106 = .ok (.iconst 0, 1) := by decide +kernel
theorem dX11_landPart_107 : decode cX11_landPart 107 = .ok (.bipush 99, 2) := by decide +kernel
theorem dX11_landPart_109 : decode cX11_landPart 109 = .ok (.invokevirtual 204, 3) := by decide +kernel
theorem dX11_landPart_112 : decode cX11_landPart 112 = .ok (.ifCond .eq 7, 3) := by decide +kernel
theorem dX11_landPart_115 : decode cX11_landPart 115 = .ok (.iconst 1, 1) := by decide +kernel
theorem dX11_landPart_116 : decode cX11_landPart 116 = .ok (.goto 4, 3) := by decide +kernel
theorem dX11_landPart_119 : decode cX11_landPart 119 = .ok (.iconst 0, 1) := by decide +kernel
theorem dX11_landPart_120 : decode cX11_landPart 120 = .ok (.istore_n 3, 1) := by decide +kernel
theorem dX11_landPart_121 : decode cX11_landPart 121 = .ok (.goto 270, 3) := by decide +kernel
theorem dX11_landPart_124 : decode cX11_landPart 124 = .ok (.aload_n 0, 1) := by decide +kernel
theorem dX11_landPart_125 : decode cX11_landPart 125 = .ok (.invokevirtual 170, 3) := by decide +kernel
theorem dX11_landPart_128 : decode cX11_landPart 128 = .ok (.aload_n 0, 1) := by decide +kernel
theorem dX11_landPart_129 : decode cX11_landPart 129 = .ok (.bipush 84, 2) := by decide +kernel
theorem dX11_landPart_131 : decode cX11_landPart 131 = .ok (.aload_n 0, 1) := by decide +kernel
theorem dX11_landPart_132 : decode cX11_landPart 132 = .ok (.getfield 7, 3) := by decide +kernel
theorem dX11_landPart_135 : decode cX11_landPart 135 = .ok (.sipush 2096, 3) := by decide +kernel
theorem dX11_landPart_138 : decode cX11_landPart 138 = .ok (.iaload, 1) := by decide +kernel
theorem dX11_landPart_139 : decode cX11_landPart 139 = .ok (.iload_n 1, 1) := by decide +kernel
theorem dX11_landPart_140 : decode cX11_landPart 140 = .ok (.invokevirtual 210, 3) := by decide +kernel
theorem dX11_landPart_143 : decode cX11_landPart 143 = .ok (.ifCond .eq 32, 3) := by decide +kernel
theorem dX11_landPart_146 : decode cX11_landPart 146 = .ok (.aload_n 0, 1) := by decide +kernel
theorem dX11_landPart_147 : decode cX11_landPart 147 = .ok (.sipush 2102, 3) := by decide +kernel
theorem dX11_landPart_150 : decode cX11_landPart 150 = .ok (.bipush 7, 2) := by decide +kernel
theorem dX11_landPart_152 : decode cX11_landPart 152 = .ok (.aload_n 0, 1) := by decide +kernel
theorem dX11_landPart_153 : decode cX11_landPart 153 = .ok (.getfield 7, 3) := by decide +kernel
theorem dX11_landPart_156 : decode cX11_landPart 156 = .ok (.iload_n 1, 1) := by decide +kernel
theorem dX11_landPart_157 : decode cX11_landPart 157 = .ok (.iaload, 1) := by decide +kernel
theorem dX11_landPart_158 : decode cX11_landPart 158 = .ok (.imul, 1) := by decide +kernel
theorem dX11_landPart_159 : decode cX11_landPart 159 = .ok (.iadd, 1) := by decide +kernel
theorem dX11_landPart_160 : decode cX11_landPart 160 = .ok (.iconst 3, 1) := by decide +kernel
theorem dX11_landPart_161 : decode cX11_landPart 161 = .ok (.iadd, 1) := by decide +kernel
theorem dX11_landPart_162 : decode cX11_landPart 162 = .ok (.iconst 0, 1) := by decide +kernel
theorem dX11_landPart_163 : decode cX11_landPart 163 = .ok (.bipush 99, 2) := by decide +kernel
theorem dX11_landPart_165 : decode cX11_landPart 165 = .ok (.invokevirtual 204, 3) := by decide +kernel
theorem dX11_landPart_168 : decode cX11_landPart 168 = .ok (.ifCond .eq 7, 3) := by decide +kernel
theorem dX11_landPart_171 : decode cX11_landPart 171 = .ok (.iconst 1, 1) := by decide +kernel
theorem dX11_landPart_172 : decode cX11_landPart 172 = .ok (.goto 4, 3) := by decide +kernel
theorem dX11_landPart_175 : decode cX11_landPart 175 = .ok (.iconst 0, 1) := by decide +kernel
theorem dX11_landPart_176 : decode cX11_landPart 176 = .ok (.istore_n 3, 1) := by decide +kernel
theorem dX11_landPart_177 : decode cX11_landPart 177 = .ok (.goto 214, 3) := by decide +kernel
theorem dX11_landPart_180 : decode cX11_landPart 180 = .ok (.aload_n 0, 1) := by decide +kernel
theorem dX11_landPart_181 : decode cX11_landPart 181 = .ok (.invokevirtual 170, 3) := by decide +kernel
theorem dX11_landPart_184 : decode cX11_landPart 184 = .ok (.aload_n 0, 1) := by decide +kernel
theorem dX11_landPart_185 : decode cX11_landPart 185 = .ok (.iload_n 1, 1) := by decide +kernel
theorem dX11_landPart_186 : decode cX11_landPart 186 = .ok (.iconst 0, 1) := by decide +kernel
theorem dX11_landPart_187 : decode cX11_landPart 187 = .ok (.bipush 11, 2) := by decide +kernel
theorem dX11_landPart_189 : decode cX11_landPart 189 = .ok (.invokevirtual 204, 3) := by decide +kernel
theorem dX11_landPart_192 : decode cX11_landPart 192 = .ok (.ifCond .eq 27, 3) := by decide +kernel
theorem dX11_landPart_195 : decode cX11_landPart 195 = .ok (.aload_n 0, 1) := by decide +kernel
theorem dX11_landPart_196 : decode cX11_landPart 196 = .ok (.bipush 91, 2) := by decide +kernel
theorem dX11_landPart_198 : decode cX11_landPart 198 = .ok (.aload_n 0, 1) := by decide +kernel
theorem dX11_landPart_199 : decode cX11_landPart 199 = .ok (.getfield 7, 3) := by decide +kernel
theorem dX11_landPart_202 : decode cX11_landPart 202 = .ok (.sipush 2097, 3) := by decide +kernel
theorem dX11_landPart_205 : decode cX11_landPart 205 = .ok (.iaload, 1) := by decide +kernel
theorem dX11_landPart_206 : decode cX11_landPart 206 = .ok (.iload_n 1, 1) := by decide +kernel
theorem dX11_landPart_207 : decode cX11_landPart 207 = .ok (.iconst 1, 1) := by decide +kernel
theorem dX11_landPart_208 : decode cX11_landPart 208 = .ok (.iadd, 1) := by decide +kernel
theorem dX11_landPart_209 : decode cX11_landPart 209 = .ok (.invokevirtual 210, 3) := by decide +kernel
theorem dX11_landPart_212 : decode cX11_landPart 212 = .ok (.ifCond .eq 7, 3) := by decide +kernel
theorem dX11_landPart_215 : decode cX11_landPart 215 = .ok (.iconst 1, 1) := by decide +kernel
theorem dX11_landPart_216 : decode cX11_landPart 216 = .ok (.goto 4, 3) := by decide +kernel
theorem dX11_landPart_219 : decode cX11_landPart 219 = .ok (.iconst 0, 1) := by decide +kernel
theorem dX11_landPart_220 : decode cX11_landPart 220 = .ok (.istore_n 3, 1) := by decide +kernel
theorem dX11_landPart_221 : decode cX11_landPart 221 = .ok (.iload_n 3, 1) := by decide +kernel
theorem dX11_landPart_222 : decode cX11_landPart 222 = .ok (.ifCond .eq 169, 3) := by decide +kernel
theorem dX11_landPart_225 : decode cX11_landPart 225 = .ok (.aload_n 0, 1) := by decide +kernel
theorem dX11_landPart_226 : decode cX11_landPart 226 = .ok (.getfield 7, 3) := by decide +kernel
theorem dX11_landPart_229 : decode cX11_landPart 229 = .ok (.sipush 2151, 3) := by decide +kernel
theorem dX11_landPart_232 : decode cX11_landPart 232 = .ok (.bipush 8, 2) := by decide +kernel
theorem dX11_landPart_234 : decode cX11_landPart 234 = .ok (.aload_n 0, 1) := by decide +kernel
theorem dX11_landPart_235 : decode cX11_landPart 235 = .ok (.getfield 7, 3) := by decide +kernel
theorem dX11_landPart_238 : decode cX11_landPart 238 = .ok (.iload_n 1, 1) := by decide +kernel
theorem dX11_landPart_239 : decode cX11_landPart 239 = .ok (.iconst 1, 1) := by decide +kernel
theorem dX11_landPart_240 : decode cX11_landPart 240 = .ok (.iadd, 1) := by decide +kernel
theorem dX11_landPart_241 : decode cX11_landPart 241 = .ok (.iaload, 1) := by decide +kernel
theorem dX11_landPart_242 : decode cX11_landPart 242 = .ok (.imul, 1) := by decide +kernel
theorem dX11_landPart_243 : decode cX11_landPart 243 = .ok (.iadd, 1) := by decide +kernel
theorem dX11_landPart_244 : decode cX11_landPart 244 = .ok (.iconst 5, 1) := by decide +kernel
theorem dX11_landPart_245 : decode cX11_landPart 245 = .ok (.iadd, 1) := by decide +kernel
theorem dX11_landPart_246 : decode cX11_landPart 246 = .ok (.dup2, 1) := by decide +kernel
theorem dX11_landPart_247 : decode cX11_landPart 247 = .ok (.iaload, 1) := by decide +kernel
theorem dX11_landPart_248 : decode cX11_landPart 248 = .ok (.iconst 1, 1) := by decide +kernel
theorem dX11_landPart_249 : decode cX11_landPart 249 = .ok (.aload_n 0, 1) := by decide +kernel
theorem dX11_landPart_250 : decode cX11_landPart 250 = .ok (.getfield 7, 3) := by decide +kernel
theorem dX11_landPart_253 : decode cX11_landPart 253 = .ok (.iload_n 1, 1) := by decide +kernel
theorem dX11_landPart_254 : decode cX11_landPart 254 = .ok (.iaload, 1) := by decide +kernel
theorem dX11_landPart_255 : decode cX11_landPart 255 = .ok (.ishl, 1) := by decide +kernel
theorem dX11_landPart_256 : decode cX11_landPart 256 = .ok (.ior, 1) := by decide +kernel
theorem dX11_landPart_257 : decode cX11_landPart 257 = .ok (.iastore, 1) := by decide +kernel
theorem dX11_landPart_258 : decode cX11_landPart 258 = .ok (.goto 133, 3) := by decide +kernel
theorem dX11_landPart_261 : decode cX11_landPart 261 = .ok (.aload_n 0, 1) := by decide +kernel
theorem dX11_landPart_262 : decode cX11_landPart 262 = .ok (.iconst 2, 1) := by decide +kernel
theorem dX11_landPart_263 : decode cX11_landPart 263 = .ok (.iconst 4, 1) := by decide +kernel
theorem dX11_landPart_264 : decode cX11_landPart 264 = .ok (.bipush 17, 2) := by decide +kernel
theorem dX11_landPart_266 : decode cX11_landPart 266 = .ok (.invokevirtual 196, 3) := by decide +kernel
theorem dX11_landPart_269 : decode cX11_landPart 269 = .ok (.ifCond .eq 91, 3) := by decide +kernel
theorem dX11_landPart_272 : decode cX11_landPart 272 = .ok (.aload_n 0, 1) := by decide +kernel
theorem dX11_landPart_273 : decode cX11_landPart 273 = .ok (.ldc 187, 2) := by decide +kernel
theorem dX11_landPart_275 : decode cX11_landPart 275 = .ok (.bipush 15, 2) := by decide +kernel
theorem dX11_landPart_277 : decode cX11_landPart 277 = .ok (.invokevirtual 200, 3) := by decide +kernel
theorem dX11_landPart_280 : decode cX11_landPart 280 = .ok (.ifCond .eq 80, 3) := by decide +kernel
theorem dX11_landPart_283 : decode cX11_landPart 283 = .ok (.aload_n 0, 1) := by decide +kernel
theorem dX11_landPart_284 : decode cX11_landPart 284 = .ok (.bipush 91, 2) := by decide +kernel
theorem dX11_landPart_286 : decode cX11_landPart 286 = .ok (.aload_n 0, 1) := by decide +kernel
theorem dX11_landPart_287 : decode cX11_landPart 287 = .ok (.getfield 7, 3) := by decide +kernel
theorem dX11_landPart_290 : decode cX11_landPart 290 = .ok (.sipush 2097, 3) := by decide +kernel
theorem dX11_landPart_293 : decode cX11_landPart 293 = .ok (.iaload, 1) := by decide +kernel
theorem dX11_landPart_294 : decode cX11_landPart 294 = .ok (.iload_n 2, 1) := by decide +kernel
theorem dX11_landPart_295 : decode cX11_landPart 295 = .ok (.invokevirtual 210, 3) := by decide +kernel
theorem dX11_landPart_298 : decode cX11_landPart 298 = .ok (.ifCond .eq 62, 3) := by decide +kernel
theorem dX11_landPart_301 : decode cX11_landPart 301 = .ok (.aload_n 0, 1) := by decide +kernel
theorem dX11_landPart_302 : decode cX11_landPart 302 = .ok (.ldc 187, 2) := by decide +kernel
theorem dX11_landPart_304 : decode cX11_landPart 304 = .ok (.bipush 10, 2) := by decide +kernel
theorem dX11_landPart_306 : decode cX11_landPart 306 = .ok (.invokevirtual 200, 3) := by decide +kernel
theorem dX11_landPart_309 : decode cX11_landPart 309 = .ok (.ifCond .eq 51, 3) := by decide +kernel
theorem dX11_landPart_312 : decode cX11_landPart 312 = .ok (.aload_n 0, 1) := by decide +kernel
theorem dX11_landPart_313 : decode cX11_landPart 313 = .ok (.iload_n 2, 1) := by decide +kernel
theorem dX11_landPart_314 : decode cX11_landPart 314 = .ok (.iconst 1, 1) := by decide +kernel
theorem dX11_landPart_315 : decode cX11_landPart 315 = .ok (.iadd, 1) := by decide +kernel
theorem dX11_landPart_316 : decode cX11_landPart 316 = .ok (.iconst 0, 1) := by decide +kernel
theorem dX11_landPart_317 : decode cX11_landPart 317 = .ok (.bipush 11, 2) := by decide +kernel
theorem dX11_landPart_319 : decode cX11_landPart 319 = .ok (.invokevirtual 204, 3) := by decide +kernel
theorem dX11_landPart_322 : decode cX11_landPart 322 = .ok (.ifCond .eq 38, 3) := by decide +kernel
theorem dX11_landPart_325 : decode cX11_landPart 325 = .ok (.aload_n 0, 1) := by decide +kernel
theorem dX11_landPart_326 : decode cX11_landPart 326 = .ok (.ldc 187, 2) := by decide +kernel
theorem dX11_landPart_328 : decode cX11_landPart 328 = .ok (.bipush 11, 2) := by decide +kernel
theorem dX11_landPart_330 : decode cX11_landPart 330 = .ok (.invokevirtual 200, 3) := by decide +kernel
theorem dX11_landPart_333 : decode cX11_landPart 333 = .ok (.ifCond .eq 27, 3) := by decide +kernel
theorem dX11_landPart_336 : decode cX11_landPart 336 = .ok (.aload_n 0, 1) := by decide +kernel
theorem dX11_landPart_337 : decode cX11_landPart 337 = .ok (.iload_n 2, 1) := by decide +kernel
theorem dX11_landPart_338 : decode cX11_landPart 338 = .ok (.iconst 2, 1) := by decide +kernel
theorem dX11_landPart_339 : decode cX11_landPart 339 = .ok (.iadd, 1) := by decide +kernel
theorem dX11_landPart_340 : decode cX11_landPart 340 = .ok (.aload_n 0, 1) := by decide +kernel
theorem dX11_landPart_341 : decode cX11_landPart 341 = .ok (.getfield 7, 3) := by decide +kernel
theorem dX11_landPart_344 : decode cX11_landPart 344 = .ok (.iload_n 2, 1) := by decide +kernel
theorem dX11_landPart_345 : decode cX11_landPart 345 = .ok (.iconst 1, 1) := by decide +kernel
theorem dX11_landPart_346 : decode cX11_landPart 346 = .ok (.iadd, 1) := by decide +kernel
theorem dX11_landPart_347 : decode cX11_landPart 347 = .ok (.iaload, 1) := by decide +kernel
theorem dX11_landPart_348 : decode cX11_landPart 348 = .ok (.bipush 11, 2) := by decide +kernel
theorem dX11_landPart_350 : decode cX11_landPart 350 = .ok (.invokevirtual 204, 3) := by decide +kernel
theorem dX11_landPart_353 : decode cX11_landPart 353 = .ok (.ifCond .eq 7, 3) := by decide +kernel
theorem dX11_landPart_356 : decode cX11_landPart 356 = .ok (.iconst 1, 1) := by decide +kernel
theorem dX11_landPart_357 : decode cX11_landPart 357 = .ok (.goto 4, 3) := by decide +kernel
theorem dX11_landPart_360 : decode cX11_landPart 360 = .ok (.iconst 0, 1) := by decide +kernel
theorem dX11_landPart_361 : decode cX11_landPart 361 = .ok (.istore_n 3, 1) := by decide +kernel
theorem dX11_landPart_362 : decode cX11_landPart 362 = .ok (.aload_n 0, 1) := by decide +kernel
theorem dX11_landPart_363 : decode cX11_landPart 363 = .ok (.getfield 7, 3) := by decide +kernel
theorem dX11_landPart_366 : decode cX11_landPart 366 = .ok (.sipush 2098, 3) := by decide +kernel
theorem dX11_landPart_369 : decode cX11_landPart 369 = .ok (.dup2, 1) := by decide +kernel
theorem dX11_landPart_370 : decode cX11_landPart 370 = .ok (.iaload, 1) := by decide +kernel
theorem dX11_landPart_371 : decode cX11_landPart 371 = .ok (.iload_n 3, 1) := by decide +kernel
theorem dX11_landPart_372 : decode cX11_landPart 372 = .ok (.ifCond .eq 7, 3) := by decide +kernel
theorem dX11_landPart_375 : decode cX11_landPart 375 = .ok (.iconst 1, 1) := by decide +kernel
theorem dX11_landPart_376 : decode cX11_landPart 376 = .ok (.goto 4, 3) := by decide +kernel
theorem dX11_landPart_379 : decode cX11_landPart 379 = .ok (.iconst 0, 1) := by decide +kernel
theorem dX11_landPart_380 : decode cX11_landPart 380 = .ok (.iadd, 1) := by decide +kernel
theorem dX11_landPart_381 : decode cX11_landPart 381 = .ok (.iastore, 1) := by decide +kernel
theorem dX11_landPart_382 : decode cX11_landPart 382 = .ok (.goto 9, 3) := by decide +kernel
theorem dX11_landPart_385 : decode cX11_landPart 385 = .ok (.aload_n 0, 1) := by decide +kernel
theorem dX11_landPart_386 : decode cX11_landPart 386 = .ok (.iconst 2, 1) := by decide +kernel
theorem dX11_landPart_387 : decode cX11_landPart 387 = .ok (.invokevirtual 176, 3) := by decide +kernel
theorem dX11_landPart_390 : decode cX11_landPart 390 = .ok (.ireturn, 1) := by decide +kernel
theorem dX11_landPart_391 : decode cX11_landPart 391 = .ok (.iload_n 3, 1) := by decide +kernel
theorem dX11_landPart_392 : decode cX11_landPart 392 = .ok (.ifCond .eq 16, 3) := by decide +kernel
theorem dX11_landPart_395 : decode cX11_landPart 395 = .ok (.aload_n 0, 1) := by decide +kernel
theorem dX11_landPart_396 : decode cX11_landPart 396 = .ok (.bipush 59, 2) := by decide +kernel
theorem dX11_landPart_398 : decode cX11_landPart 398 = .ok (.invokevirtual 223, 3) := by decide +kernel
theorem dX11_landPart_401 : decode cX11_landPart 401 = .ok (.ifCond .eq 7, 3) := by decide +kernel
theorem dX11_landPart_404 : decode cX11_landPart 404 = .ok (.iconst 1, 1) := by decide +kernel
theorem dX11_landPart_405 : decode cX11_landPart 405 = .ok (.goto 4, 3) := by decide +kernel
theorem dX11_landPart_408 : decode cX11_landPart 408 = .ok (.iconst 0, 1) := by decide +kernel
theorem dX11_landPart_409 : decode cX11_landPart 409 = .ok (.ireturn, 1) := by decide +kernel
theorem dX11_land_0 : decode cX11_land 0 = .ok (.aload_n 0, 1) := by decide +kernel
theorem dX11_land_1 : decode cX11_land 1 = .ok (.iload_n 1, 1) := by decide +kernel
theorem dX11_land_2 : decode cX11_land 2 = .ok (.sipush 900, 3) := by decide +kernel
theorem dX11_land_5 : decode cX11_land 5 = .ok (.invokevirtual 226, 3) := by decide +kernel
theorem dX11_land_8 : decode cX11_land 8 = .ok (.ifCond .ne 9, 3) := by decide +kernel
theorem dX11_land_11 : decode cX11_land 11 = .ok (.aload_n 0, 1) := by decide +kernel
theorem dX11_land_12 : decode cX11_land 12 = .ok (.iconst 1, 1) := by decide +kernel
theorem dX11_land_13 : decode cX11_land 13 = .ok (.invokevirtual 90, 3) := by decide +kernel
theorem dX11_land_16 : decode cX11_land 16 = .ok (.ireturn, 1) := by decide +kernel
theorem dX11_land_17 : decode cX11_land 17 = .ok (.aload_n 0, 1) := by decide +kernel
theorem dX11_land_18 : decode cX11_land 18 = .ok (.sipush 2096, 3) := by decide +kernel
theorem dX11_land_21 : decode cX11_land 21 = .ok (.invokevirtual 80, 3) := by decide +kernel
theorem dX11_land_24 : decode cX11_land 24 = .ok (.iconst 1, 1) := by decide +kernel
theorem dX11_land_25 : decode cX11_land 25 = .ok (.istore_n 2, 1) := by decide +kernel
theorem dX11_land_26 : decode cX11_land 26 = .ok (.iload_n 2, 1) := by decide +kernel
theorem dX11_land_27 : decode cX11_land 27 = .ok (.ifCond .eq 18, 3) := by decide +kernel
theorem dX11_land_30 : decode cX11_land 30 = .ok (.aload_n 0, 1) := by decide +kernel
theorem dX11_land_31 : decode cX11_land 31 = .ok (.getfield 141, 3) := by decide +kernel
theorem dX11_land_34 : decode cX11_land 34 = .ok (.ifCond .eq 11, 3) := by decide +kernel
theorem dX11_land_37 : decode cX11_land 37 = .ok (.aload_n 0, 1) := by decide +kernel
theorem dX11_land_38 : decode cX11_land 38 = .ok (.invokevirtual 230, 3) := by decide +kernel
theorem dX11_land_41 : decode cX11_land 41 = .ok (.istore_n 2, 1) := by decide +kernel
theorem dX11_land_42 : decode cX11_land 42 = .ok (.goto (-16), 3) := by decide +kernel
theorem dX11_land_45 : decode cX11_land 45 = .ok (.aload_n 0, 1) := by decide +kernel
theorem dX11_land_46 : decode cX11_land 46 = .ok (.getfield 164, 3) := by decide +kernel
theorem dX11_land_49 : decode cX11_land 49 = .ok (.ifCond .ne 63, 3) := by decide +kernel
theorem dX11_land_52 : decode cX11_land 52 = .ok (.iconst 0, 1) := by decide +kernel
theorem dX11_land_53 : decode cX11_land 53 = .ok (.istore_n 3, 1) := by decide +kernel
theorem dX11_land_54 : decode cX11_land 54 = .ok (.iload_n 3, 1) := by decide +kernel
theorem dX11_land_55 : decode cX11_land 55 = .ok (.sipush 524, 3) := by decide +kernel
theorem dX11_land_58 : decode cX11_land 58 = .ok (.if_icmp .ge 25, 3) := by decide +kernel
theorem dX11_land_61 : decode cX11_land 61 = .ok (.aload_n 0, 1) := by decide +kernel
theorem dX11_land_62 : decode cX11_land 62 = .ok (.getfield 7, 3) := by decide +kernel
theorem dX11_land_65 : decode cX11_land 65 = .ok (.iload_n 3, 1) := by decide +kernel
theorem dX11_land_66 : decode cX11_land 66 = .ok (.aload_n 0, 1) := by decide +kernel
theorem dX11_land_67 : decode cX11_land 67 = .ok (.getfield 7, 3) := by decide +kernel
theorem dX11_land_70 : decode cX11_land 70 = .ok (.sipush 2096, 3) := by decide +kernel
theorem dX11_land_73 : decode cX11_land 73 = .ok (.iload_n 3, 1) := by decide +kernel
theorem dX11_land_74 : decode cX11_land 74 = .ok (.iadd, 1) := by decide +kernel
theorem dX11_land_75 : decode cX11_land 75 = .ok (.iaload, 1) := by decide +kernel
theorem dX11_land_76 : decode cX11_land 76 = .ok (.iastore, 1) := by decide +kernel
theorem dX11_land_77 : decode cX11_land 77 = .ok (.iinc 3 1, 3) := by decide +kernel
theorem dX11_land_80 : decode cX11_land 80 = .ok (.goto (-26), 3) := by decide +kernel
theorem dX11_land_83 : decode cX11_land 83 = .ok (.iconst 0, 1) := by decide +kernel
theorem dX11_land_84 : decode cX11_land 84 = .ok (.istore_n 3, 1) := by decide +kernel
theorem dX11_land_85 : decode cX11_land 85 = .ok (.iload_n 3, 1) := by decide +kernel
theorem dX11_land_86 : decode cX11_land 86 = .ok (.bipush 21, 2) := by decide +kernel
theorem dX11_land_88 : decode cX11_land 88 = .ok (.if_icmp .ge 24, 3) := by decide +kernel
theorem dX11_land_91 : decode cX11_land 91 = .ok (.aload_n 0, 1) := by decide +kernel
theorem dX11_land_92 : decode cX11_land 92 = .ok (.getfield 13, 3) := by decide +kernel
theorem dX11_land_95 : decode cX11_land 95 = .ok (.iload_n 3, 1) := by decide +kernel
theorem dX11_land_96 : decode cX11_land 96 = .ok (.aload_n 0, 1) := by decide +kernel
theorem dX11_land_97 : decode cX11_land 97 = .ok (.getfield 13, 3) := by decide +kernel
theorem dX11_land_100 : decode cX11_land 100 = .ok (.bipush 84, 2) := by decide +kernel
theorem dX11_land_102 : decode cX11_land 102 = .ok (.iload_n 3, 1) := by decide +kernel
theorem dX11_land_103 : decode cX11_land 103 = .ok (.iadd, 1) := by decide +kernel
theorem dX11_land_104 : decode cX11_land 104 = .ok (.laload, 1) := by decide +kernel
theorem dX11_land_105 : decode cX11_land 105 = .ok (.lastore, 1) := by decide +kernel
theorem dX11_land_106 : decode cX11_land 106 = .ok (.iinc 3 1, 3) := by decide +kernel
theorem dX11_land_109 : decode cX11_land 109 = .ok (.goto (-24), 3) := by decide +kernel
theorem dX11_land_112 : decode cX11_land 112 = .ok (.aload_n 0, 1) := by decide +kernel
theorem dX11_land_113 : decode cX11_land 113 = .ok (.aload_n 0, 1) := by decide +kernel
theorem dX11_land_114 : decode cX11_land 114 = .ok (.getfield 7, 3) := by decide +kernel
theorem dX11_land_117 : decode cX11_land 117 = .ok (.iconst 1, 1) := by decide +kernel
theorem dX11_land_118 : decode cX11_land 118 = .ok (.iaload, 1) := by decide +kernel
theorem dX11_land_119 : decode cX11_land 119 = .ok (.invokevirtual 233, 3) := by decide +kernel
theorem dX11_land_122 : decode cX11_land 122 = .ok (.ireturn, 1) := by decide +kernel
theorem dX11_roomTo_0 : decode cX11_roomTo 0 = .ok (.aload_n 0, 1) := by decide +kernel
theorem dX11_roomTo_1 : decode cX11_roomTo 1 = .ok (.iconst 0, 1) := by decide +kernel
theorem dX11_roomTo_2 : decode cX11_roomTo 2 = .ok (.aload_n 0, 1) := by decide +kernel
theorem dX11_roomTo_3 : decode cX11_roomTo 3 = .ok (.getfield 7, 3) := by decide +kernel
theorem dX11_roomTo_6 : decode cX11_roomTo 6 = .ok (.iconst 0, 1) := by decide +kernel
theorem dX11_roomTo_7 : decode cX11_roomTo 7 = .ok (.iaload, 1) := by decide +kernel
theorem dX11_roomTo_8 : decode cX11_roomTo 8 = .ok (.iload_n 1, 1) := by decide +kernel
theorem dX11_roomTo_9 : decode cX11_roomTo 9 = .ok (.invokevirtual 210, 3) := by decide +kernel
theorem dX11_roomTo_12 : decode cX11_roomTo 12 = .ok (.ireturn, 1) := by decide +kernel
theorem dX11_doorTo_0 : decode cX11_doorTo 0 = .ok (.aload_n 0, 1) := by decide +kernel
theorem dX11_doorTo_1 : decode cX11_doorTo 1 = .ok (.bipush 7, 2) := by decide +kernel
theorem dX11_doorTo_3 : decode cX11_doorTo 3 = .ok (.aload_n 0, 1) := by decide +kernel
theorem dX11_doorTo_4 : decode cX11_doorTo 4 = .ok (.getfield 7, 3) := by decide +kernel
theorem dX11_doorTo_7 : decode cX11_doorTo 7 = .ok (.iconst 1, 1) := by decide +kernel
theorem dX11_doorTo_8 : decode cX11_doorTo 8 = .ok (.iaload, 1) := by decide +kernel
theorem dX11_doorTo_9 : decode cX11_doorTo 9 = .ok (.iload_n 1, 1) := by decide +kernel
theorem dX11_doorTo_10 : decode cX11_doorTo 10 = .ok (.invokevirtual 210, 3) := by decide +kernel
theorem dX11_doorTo_13 : decode cX11_doorTo 13 = .ok (.ireturn, 1) := by decide +kernel
theorem dX11_test_0 : decode cX11_test 0 = .ok (.aload_n 0, 1) := by decide +kernel
theorem dX11_test_1 : decode cX11_test 1 = .ok (.ldc 187, 2) := by decide +kernel
theorem dX11_test_3 : decode cX11_test 3 = .ok (.invokevirtual 179, 3) := by decide +kernel
theorem dX11_test_6 : decode cX11_test 6 = .ok (.istore_n 2, 1) := by decide +kernel
theorem dX11_test_7 : decode cX11_test 7 = .ok (.iload_n 2, 1) := by decide +kernel
theorem dX11_test_8 : decode cX11_test 8 = .ok (.bipush 26, 2) := by decide +kernel
theorem dX11_test_10 : decode cX11_test 10 = .ok (.if_icmp .eq 21, 3) := by decide +kernel
theorem dX11_test_13 : decode cX11_test 13 = .ok (.iload_n 2, 1) := by decide +kernel
theorem dX11_test_14 : decode cX11_test 14 = .ok (.bipush 18, 2) := by decide +kernel
theorem dX11_test_16 : decode cX11_test 16 = .ok (.if_icmp .eq 15, 3) := by decide +kernel
theorem dX11_test_19 : decode cX11_test 19 = .ok (.iload_n 2, 1) := by decide +kernel
theorem dX11_test_20 : decode cX11_test 20 = .ok (.bipush 27, 2) := by decide +kernel
theorem dX11_test_22 : decode cX11_test 22 = .ok (.if_icmp .eq 9, 3) := by decide +kernel
theorem dX11_test_25 : decode cX11_test 25 = .ok (.aload_n 0, 1) := by decide +kernel
theorem dX11_test_26 : decode cX11_test 26 = .ok (.iconst 2, 1) := by decide +kernel
theorem dX11_test_27 : decode cX11_test 27 = .ok (.invokevirtual 176, 3) := by decide +kernel
theorem dX11_test_30 : decode cX11_test 30 = .ok (.ireturn, 1) := by decide +kernel
theorem dX11_test_31 : decode cX11_test 31 = .ok (.aload_n 0, 1) := by decide +kernel
theorem dX11_test_32 : decode cX11_test 32 = .ok (.getfield 7, 3) := by decide +kernel
theorem dX11_test_35 : decode cX11_test 35 = .ok (.iload_n 1, 1) := by decide +kernel
theorem dX11_test_36 : decode cX11_test 36 = .ok (.sipush 2200, 3) := by decide +kernel
theorem dX11_test_39 : decode cX11_test 39 = .ok (.iload_n 2, 1) := by decide +kernel
theorem dX11_test_40 : decode cX11_test 40 = .ok (.iadd, 1) := by decide +kernel
theorem dX11_test_41 : decode cX11_test 41 = .ok (.iastore, 1) := by decide +kernel
theorem dX11_test_42 : decode cX11_test 42 = .ok (.aload_n 0, 1) := by decide +kernel
theorem dX11_test_43 : decode cX11_test 43 = .ok (.invokevirtual 170, 3) := by decide +kernel
theorem dX11_test_46 : decode cX11_test 46 = .ok (.iload_n 2, 1) := by decide +kernel
theorem dX11_test_47 : decode cX11_test 47 = .ok (.bipush 18, 2) := by decide +kernel
theorem dX11_test_49 : decode cX11_test 49 = .ok (.if_icmp .ne 11, 3) := by decide +kernel
theorem dX11_test_52 : decode cX11_test 52 = .ok (.aload_n 0, 1) := by decide +kernel
theorem dX11_test_53 : decode cX11_test 53 = .ok (.iload_n 1, 1) := by decide +kernel
theorem dX11_test_54 : decode cX11_test 54 = .ok (.iconst 1, 1) := by decide +kernel
theorem dX11_test_55 : decode cX11_test 55 = .ok (.iadd, 1) := by decide +kernel
theorem dX11_test_56 : decode cX11_test 56 = .ok (.invokevirtual 236, 3) := by decide +kernel
theorem dX11_test_59 : decode cX11_test 59 = .ok (.ireturn, 1) := by decide +kernel
theorem dX11_test_60 : decode cX11_test 60 = .ok (.aload_n 0, 1) := by decide +kernel
theorem dX11_test_61 : decode cX11_test 61 = .ok (.iload_n 1, 1) := by decide +kernel
theorem dX11_test_62 : decode cX11_test 62 = .ok (.iconst 1, 1) := by decide +kernel
theorem dX11_test_63 : decode cX11_test 63 = .ok (.iadd, 1) := by decide +kernel
theorem dX11_test_64 : decode cX11_test 64 = .ok (.invokevirtual 239, 3) := by decide +kernel
theorem dX11_test_67 : decode cX11_test 67 = .ok (.ifCond .ne 5, 3) := by decide +kernel
theorem dX11_test_70 : decode cX11_test 70 = .ok (.iconst 0, 1) := by decide +kernel
theorem dX11_test_71 : decode cX11_test 71 = .ok (.ireturn, 1) := by decide +kernel
theorem dX11_test_72 : decode cX11_test 72 = .ok (.iload_n 2, 1) := by decide +kernel
theorem dX11_test_73 : decode cX11_test 73 = .ok (.bipush 26, 2) := by decide +kernel
theorem dX11_test_75 : decode cX11_test 75 = .ok (.if_icmp .ne 5, 3) := by decide +kernel
theorem dX11_test_78 : decode cX11_test 78 = .ok (.iconst 1, 1) := by decide +kernel
theorem dX11_test_79 : decode cX11_test 79 = .ok (.ireturn, 1) := by decide +kernel
theorem dX11_test_80 : decode cX11_test 80 = .ok (.aload_n 0, 1) := by decide +kernel
theorem dX11_test_81 : decode cX11_test 81 = .ok (.bipush 60, 2) := by decide +kernel
theorem dX11_test_83 : decode cX11_test 83 = .ok (.invokevirtual 173, 3) := by decide +kernel
theorem dX11_test_86 : decode cX11_test 86 = .ok (.ifCond .ne 27, 3) := by decide +kernel
theorem dX11_test_89 : decode cX11_test 89 = .ok (.aload_n 0, 1) := by decide +kernel
theorem dX11_test_90 : decode cX11_test 90 = .ok (.bipush 62, 2) := by decide +kernel
theorem dX11_test_92 : decode cX11_test 92 = .ok (.invokevirtual 173, 3) := by decide +kernel
theorem dX11_test_95 : decode cX11_test 95 = .ok (.ifCond .ne 18, 3) := by decide +kernel
theorem dX11_test_98 : decode cX11_test 98 = .ok (.aload_n 0, 1) := by decide +kernel
theorem dX11_test_99 : decode cX11_test 99 = .ok (.bipush 61, 2) := by decide +kernel
theorem dX11_test_101 : decode cX11_test 101 = .ok (.invokevirtual 173, 3) := by decide +kernel
theorem dX11_test_104 : decode cX11_test 104 = .ok (.ifCond .ne 9, 3) := by decide +kernel
theorem dX11_test_107 : decode cX11_test 107 = .ok (.aload_n 0, 1) := by decide +kernel
theorem dX11_test_108 : decode cX11_test 108 = .ok (.iconst 2, 1) := by decide +kernel
theorem dX11_test_109 : decode cX11_test 109 = .ok (.invokevirtual 176, 3) := by decide +kernel
theorem dX11_test_112 : decode cX11_test 112 = .ok (.ireturn, 1) := by decide +kernel
theorem dX11_test_113 : decode cX11_test 113 = .ok (.aload_n 0, 1) := by decide +kernel
theorem dX11_test_114 : decode cX11_test 114 = .ok (.getfield 7, 3) := by decide +kernel
theorem dX11_test_117 : decode cX11_test 117 = .ok (.iload_n 1, 1) := by decide +kernel
theorem dX11_test_118 : decode cX11_test 118 = .ok (.iconst 5, 1) := by decide +kernel
theorem dX11_test_119 : decode cX11_test 119 = .ok (.iadd, 1) := by decide +kernel
theorem dX11_test_120 : decode cX11_test 120 = .ok (.aload_n 0, 1) := by decide +kernel
theorem dX11_test_121 : decode cX11_test 121 = .ok (.getfield 138, 3) := by decide +kernel
theorem dX11_test_124 : decode cX11_test 124 = .ok (.iastore, 1) := by decide +kernel
theorem dX11_test_125 : decode cX11_test 125 = .ok (.aload_n 0, 1) := by decide +kernel
theorem dX11_test_126 : decode cX11_test 126 = .ok (.invokevirtual 170, 3) := by decide +kernel
theorem dX11_test_129 : decode cX11_test 129 = .ok (.aload_n 0, 1) := by decide +kernel
theorem dX11_test_130 : decode cX11_test 130 = .ok (.iload_n 1, 1) := by decide +kernel
theorem dX11_test_131 : decode cX11_test 131 = .ok (.iconst 2, 1) := by decide +kernel
theorem dX11_test_132 : decode cX11_test 132 = .ok (.iadd, 1) := by decide +kernel
theorem dX11_test_133 : decode cX11_test 133 = .ok (.iconst 0, 1) := by decide +kernel
theorem dX11_test_134 : decode cX11_test 134 = .ok (.sipush 9999, 3) := by decide +kernel
theorem dX11_test_137 : decode cX11_test 137 = .ok (.invokevirtual 204, 3) := by decide +kernel
theorem dX11_test_140 : decode cX11_test 140 = .ok (.ireturn, 1) := by decide +kernel
theorem dX11_nightOrder_0 : decode cX11_nightOrder 0 = .ok (.iload_n 1, 1) := by decide +kernel
theorem dX11_nightOrder_1 : decode cX11_nightOrder 1 = .ok (.tableswitch 109 17 23 #[43, 65, 65, 73, 109, 103, 54], 43) := by decide +kernel
theorem dX11_nightOrder_44 : decode cX11_nightOrder 44 = .ok (.aload_n 0, 1) := by decide +kernel
theorem dX11_nightOrder_45 : decode cX11_nightOrder 45 = .ok (.iload_n 2, 1) := by decide +kernel
theorem dX11_nightOrder_46 : decode cX11_nightOrder 46 = .ok (.iconst 1, 1) := by decide +kernel
theorem dX11_nightOrder_47 : decode cX11_nightOrder 47 = .ok (.iadd, 1) := by decide +kernel
theorem dX11_nightOrder_48 : decode cX11_nightOrder 48 = .ok (.iconst 1, 1) := by decide +kernel
theorem dX11_nightOrder_49 : decode cX11_nightOrder 49 = .ok (.bipush 12, 2) := by decide +kernel
theorem dX11_nightOrder_51 : decode cX11_nightOrder 51 = .ok (.invokevirtual 204, 3) := by decide +kernel
theorem dX11_nightOrder_54 : decode cX11_nightOrder 54 = .ok (.ireturn, 1) := by decide +kernel
theorem dX11_nightOrder_55 : decode cX11_nightOrder 55 = .ok (.aload_n 0, 1) := by decide +kernel
theorem dX11_nightOrder_56 : decode cX11_nightOrder 56 = .ok (.iload_n 2, 1) := by decide +kernel
theorem dX11_nightOrder_57 : decode cX11_nightOrder 57 = .ok (.iconst 1, 1) := by decide +kernel
theorem dX11_nightOrder_58 : decode cX11_nightOrder 58 = .ok (.iadd, 1) := by decide +kernel
theorem dX11_nightOrder_59 : decode cX11_nightOrder 59 = .ok (.iconst 1, 1) := by decide +kernel
theorem dX11_nightOrder_60 : decode cX11_nightOrder 60 = .ok (.bipush 99, 2) := by decide +kernel
theorem dX11_nightOrder_62 : decode cX11_nightOrder 62 = .ok (.invokevirtual 204, 3) := by decide +kernel
theorem dX11_nightOrder_65 : decode cX11_nightOrder 65 = .ok (.ireturn, 1) := by decide +kernel
theorem dX11_nightOrder_66 : decode cX11_nightOrder 66 = .ok (.aload_n 0, 1) := by decide +kernel
theorem dX11_nightOrder_67 : decode cX11_nightOrder 67 = .ok (.iload_n 2, 1) := by decide +kernel
theorem dX11_nightOrder_68 : decode cX11_nightOrder 68 = .ok (.iconst 1, 1) := by decide +kernel
theorem dX11_nightOrder_69 : decode cX11_nightOrder 69 = .ok (.iadd, 1) := by decide +kernel
theorem dX11_nightOrder_70 : decode cX11_nightOrder 70 = .ok (.invokevirtual 236, 3) := by decide +kernel
theorem dX11_nightOrder_73 : decode cX11_nightOrder 73 = .ok (.ireturn, 1) := by decide +kernel
theorem dX11_nightOrder_74 : decode cX11_nightOrder 74 = .ok (.aload_n 0, 1) := by decide +kernel
theorem dX11_nightOrder_75 : decode cX11_nightOrder 75 = .ok (.iload_n 2, 1) := by decide +kernel
theorem dX11_nightOrder_76 : decode cX11_nightOrder 76 = .ok (.iconst 1, 1) := by decide +kernel
theorem dX11_nightOrder_77 : decode cX11_nightOrder 77 = .ok (.iadd, 1) := by decide +kernel
theorem dX11_nightOrder_78 : decode cX11_nightOrder 78 = .ok (.invokevirtual 239, 3) := by decide +kernel
theorem dX11_nightOrder_81 : decode cX11_nightOrder 81 = .ok (.ifCond .eq 21, 3) := by decide +kernel
theorem dX11_nightOrder_84 : decode cX11_nightOrder 84 = .ok (.aload_n 0, 1) := by decide +kernel
theorem dX11_nightOrder_85 : decode cX11_nightOrder 85 = .ok (.iload_n 2, 1) := by decide +kernel
theorem dX11_nightOrder_86 : decode cX11_nightOrder 86 = .ok (.iconst 2, 1) := by decide +kernel
theorem dX11_nightOrder_87 : decode cX11_nightOrder 87 = .ok (.iadd, 1) := by decide +kernel
theorem dX11_nightOrder_88 : decode cX11_nightOrder 88 = .ok (.iconst 1, 1) := by decide +kernel
theorem dX11_nightOrder_89 : decode cX11_nightOrder 89 = .ok (.sipush 999, 3) := by decide +kernel
theorem dX11_nightOrder_92 : decode cX11_nightOrder 92 = .ok (.invokevirtual 204, 3) := by decide +kernel
theorem dX11_nightOrder_95 : decode cX11_nightOrder 95 = .ok (.ifCond .eq 7, 3) := by decide +kernel
theorem dX11_nightOrder_98 : decode cX11_nightOrder 98 = .ok (.iconst 1, 1) := by decide +kernel
theorem dX11_nightOrder_99 : decode cX11_nightOrder 99 = .ok (.goto 4, 3) := by decide +kernel
theorem dX11_nightOrder_102 : decode cX11_nightOrder 102 = .ok (.iconst 0, 1) := by decide +kernel
theorem dX11_nightOrder_103 : decode cX11_nightOrder 103 = .ok (.ireturn, 1) := by decide +kernel
theorem dX11_nightOrder_104 : decode cX11_nightOrder 104 = .ok (.aload_n 0, 1) := by decide +kernel
theorem dX11_nightOrder_105 : decode cX11_nightOrder 105 = .ok (.iload_n 2, 1) := by decide +kernel
theorem dX11_nightOrder_106 : decode cX11_nightOrder 106 = .ok (.invokevirtual 242, 3) := by decide +kernel
theorem dX11_nightOrder_109 : decode cX11_nightOrder 109 = .ok (.ireturn, 1) := by decide +kernel
theorem dX11_nightOrder_110 : decode cX11_nightOrder 110 = .ok (.iconst 1, 1) := by decide +kernel
theorem dX11_nightOrder_111 : decode cX11_nightOrder 111 = .ok (.ireturn, 1) := by decide +kernel
theorem dX11_nightStep_0 : decode cX11_nightStep 0 = .ok (.aload_n 0, 1) := by decide +kernel
theorem dX11_nightStep_1 : decode cX11_nightStep 1 = .ok (.ldc 187, 2) := by decide +kernel
theorem dX11_nightStep_3 : decode cX11_nightStep 3 = .ok (.invokevirtual 179, 3) := by decide +kernel
theorem dX11_nightStep_6 : decode cX11_nightStep 6 = .ok (.istore_n 1, 1) := by decide +kernel
theorem dX11_nightStep_7 : decode cX11_nightStep 7 = .ok (.aload_n 0, 1) := by decide +kernel
theorem dX11_nightStep_8 : decode cX11_nightStep 8 = .ok (.getfield 7, 3) := by decide +kernel
theorem dX11_nightStep_11 : decode cX11_nightStep 11 = .ok (.sipush 2100, 3) := by decide +kernel
theorem dX11_nightStep_14 : decode cX11_nightStep 14 = .ok (.iaload, 1) := by decide +kernel
theorem dX11_nightStep_15 : decode cX11_nightStep 15 = .ok (.istore_n 2, 1) := by decide +kernel
theorem dX11_nightStep_16 : decode cX11_nightStep 16 = .ok (.sipush 2256, 3) := by decide +kernel
theorem dX11_nightStep_19 : decode cX11_nightStep 19 = .ok (.bipush 6, 2) := by decide +kernel
theorem dX11_nightStep_21 : decode cX11_nightStep 21 = .ok (.iload_n 2, 1) := by decide +kernel
theorem dX11_nightStep_22 : decode cX11_nightStep 22 = .ok (.imul, 1) := by decide +kernel
theorem dX11_nightStep_23 : decode cX11_nightStep 23 = .ok (.iadd, 1) := by decide +kernel
theorem dX11_nightStep_24 : decode cX11_nightStep 24 = .ok (.istore_n 3, 1) := by decide +kernel
theorem dX11_nightStep_25 : decode cX11_nightStep 25 = .ok (.iload_n 1, 1) := by decide +kernel
theorem dX11_nightStep_26 : decode cX11_nightStep 26 = .ok (.bipush 22, 2) := by decide +kernel
theorem dX11_nightStep_28 : decode cX11_nightStep 28 = .ok (.if_icmp .eq 9, 3) := by decide +kernel
theorem dX11_nightStep_31 : decode cX11_nightStep 31 = .ok (.iload_n 1, 1) := by decide +kernel
theorem dX11_nightStep_32 : decode cX11_nightStep 32 = .ok (.bipush 23, 2) := by decide +kernel
theorem dX11_nightStep_34 : decode cX11_nightStep 34 = .ok (.if_icmp .ne 7, 3) := by decide +kernel
theorem dX11_nightStep_37 : decode cX11_nightStep 37 = .ok (.iconst 1, 1) := by decide +kernel
theorem dX11_nightStep_38 : decode cX11_nightStep 38 = .ok (.goto 4, 3) := by decide +kernel
theorem dX11_nightStep_41 : decode cX11_nightStep 41 = .ok (.iconst 0, 1) := by decide +kernel
theorem dX11_nightStep_42 : decode cX11_nightStep 42 = .ok (.istore 4, 2) := by decide +kernel
theorem dX11_nightStep_44 : decode cX11_nightStep 44 = .ok (.iload_n 1, 1) := by decide +kernel
theorem dX11_nightStep_45 : decode cX11_nightStep 45 = .ok (.bipush 17, 2) := by decide +kernel
theorem dX11_nightStep_47 : decode cX11_nightStep 47 = .ok (.if_icmp .lt 22, 3) := by decide +kernel
theorem dX11_nightStep_50 : decode cX11_nightStep 50 = .ok (.iload_n 1, 1) := by decide +kernel
theorem dX11_nightStep_51 : decode cX11_nightStep 51 = .ok (.bipush 25, 2) := by decide +kernel
theorem dX11_nightStep_53 : decode cX11_nightStep 53 = .ok (.if_icmp .gt 16, 3) := by decide +kernel
theorem dX11_nightStep_56 : decode cX11_nightStep 56 = .ok (.iload_n 1, 1) := by decide +kernel
theorem dX11_nightStep_57 : decode cX11_nightStep 57 = .ok (.bipush 24, 2) := by decide +kernel
theorem dX11_nightStep_59 : decode cX11_nightStep 59 = .ok (.if_icmp .ne 16, 3) := by decide +kernel
theorem dX11_nightStep_62 : decode cX11_nightStep 62 = .ok (.aload_n 0, 1) := by decide +kernel
theorem dX11_nightStep_63 : decode cX11_nightStep 63 = .ok (.getfield 245, 3) := by decide +kernel
theorem dX11_nightStep_66 : decode cX11_nightStep 66 = .ok (.ifCond .ne 9, 3) := by decide +kernel
theorem dX11_nightStep_69 : decode cX11_nightStep 69 = .ok (.aload_n 0, 1) := by decide +kernel
theorem dX11_nightStep_70 : decode cX11_nightStep 70 = .ok (.iconst 2, 1) := by decide +kernel
theorem dX11_nightStep_71 : decode cX11_nightStep 71 = .ok (.invokevirtual 176, 3) := by decide +kernel
theorem dX11_nightStep_74 : decode cX11_nightStep 74 = .ok (.ireturn, 1) := by decide +kernel
theorem dX11_nightStep_75 : decode cX11_nightStep 75 = .ok (.iload_n 1, 1) := by decide +kernel
theorem dX11_nightStep_76 : decode cX11_nightStep 76 = .ok (.bipush 24, 2) := by decide +kernel
theorem dX11_nightStep_78 : decode cX11_nightStep 78 = .ok (.if_icmp .eq 19, 3) := by decide +kernel
theorem dX11_nightStep_81 : decode cX11_nightStep 81 = .ok (.aload_n 0, 1) := by decide +kernel
theorem dX11_nightStep_82 : decode cX11_nightStep 82 = .ok (.getfield 248, 3) := by decide +kernel
theorem dX11_nightStep_85 : decode cX11_nightStep 85 = .ok (.bipush 30, 2) := by decide +kernel
theorem dX11_nightStep_87 : decode cX11_nightStep 87 = .ok (.if_icmp .ne 10, 3) := by decide +kernel
theorem dX11_nightStep_90 : decode cX11_nightStep 90 = .ok (.aload_n 0, 1) := by decide +kernel
theorem dX11_nightStep_91 : decode cX11_nightStep 91 = .ok (.bipush 6, 2) := by decide +kernel
theorem dX11_nightStep_93 : decode cX11_nightStep 93 = .ok (.invokevirtual 176, 3) := by decide +kernel
theorem dX11_nightStep_96 : decode cX11_nightStep 96 = .ok (.ireturn, 1) := by decide +kernel
theorem dX11_nightStep_97 : decode cX11_nightStep 97 = .ok (.iload 4, 2) := by decide +kernel
theorem dX11_nightStep_99 : decode cX11_nightStep 99 = .ok (.ifCond .eq 18, 3) := by decide +kernel
theorem dX11_nightStep_102 : decode cX11_nightStep 102 = .ok (.aload_n 0, 1) := by decide +kernel
theorem dX11_nightStep_103 : decode cX11_nightStep 103 = .ok (.getfield 245, 3) := by decide +kernel
theorem dX11_nightStep_106 : decode cX11_nightStep 106 = .ok (.iconst 3, 1) := by decide +kernel
theorem dX11_nightStep_107 : decode cX11_nightStep 107 = .ok (.if_icmp .ne 10, 3) := by decide +kernel
theorem dX11_nightStep_110 : decode cX11_nightStep 110 = .ok (.aload_n 0, 1) := by decide +kernel
theorem dX11_nightStep_111 : decode cX11_nightStep 111 = .ok (.bipush 7, 2) := by decide +kernel
theorem dX11_nightStep_113 : decode cX11_nightStep 113 = .ok (.invokevirtual 176, 3) := by decide +kernel
theorem dX11_nightStep_116 : decode cX11_nightStep 116 = .ok (.ireturn, 1) := by decide +kernel
theorem dX11_nightStep_117 : decode cX11_nightStep 117 = .ok (.aload_n 0, 1) := by decide +kernel
theorem dX11_nightStep_118 : decode cX11_nightStep 118 = .ok (.dup, 1) := by decide +kernel
theorem dX11_nightStep_119 : decode cX11_nightStep 119 = .ok (.getfield 248, 3) := by decide +kernel
theorem dX11_nightStep_122 : decode cX11_nightStep 122 = .ok (.iload_n 1, 1) := by decide +kernel
theorem dX11_nightStep_123 : decode cX11_nightStep 123 = .ok (.bipush 24, 2) := by decide +kernel
theorem dX11_nightStep_125 : decode cX11_nightStep 125 = .ok (.if_icmp .ne 7, 3) := by decide +kernel
theorem dX11_nightStep_128 : decode cX11_nightStep 128 = .ok (.iconst 0, 1) := by decide +kernel
theorem dX11_nightStep_129 : decode cX11_nightStep 129 = .ok (.goto 4, 3) := by decide +kernel
theorem dX11_nightStep_132 : decode cX11_nightStep 132 = .ok (.iconst 1, 1) := by decide +kernel
theorem dX11_nightStep_133 : decode cX11_nightStep 133 = .ok (.iadd, 1) := by decide +kernel
theorem dX11_nightStep_134 : decode cX11_nightStep 134 = .ok (.putfield 248, 3) := by decide +kernel
theorem dX11_nightStep_137 : decode cX11_nightStep 137 = .ok (.aload_n 0, 1) := by decide +kernel
theorem dX11_nightStep_138 : decode cX11_nightStep 138 = .ok (.getfield 7, 3) := by decide +kernel
theorem dX11_nightStep_141 : decode cX11_nightStep 141 = .ok (.iload_n 3, 1) := by decide +kernel
theorem dX11_nightStep_142 : decode cX11_nightStep 142 = .ok (.iload_n 1, 1) := by decide +kernel
theorem dX11_nightStep_143 : decode cX11_nightStep 143 = .ok (.iastore, 1) := by decide +kernel
theorem dX11_nightStep_144 : decode cX11_nightStep 144 = .ok (.iconst 1, 1) := by decide +kernel
theorem dX11_nightStep_145 : decode cX11_nightStep 145 = .ok (.istore 5, 2) := by decide +kernel
theorem dX11_nightStep_147 : decode cX11_nightStep 147 = .ok (.iload 5, 2) := by decide +kernel
theorem dX11_nightStep_149 : decode cX11_nightStep 149 = .ok (.bipush 6, 2) := by decide +kernel
theorem dX11_nightStep_151 : decode cX11_nightStep 151 = .ok (.if_icmp .ge 19, 3) := by decide +kernel
theorem dX11_nightStep_154 : decode cX11_nightStep 154 = .ok (.aload_n 0, 1) := by decide +kernel
theorem dX11_nightStep_155 : decode cX11_nightStep 155 = .ok (.getfield 7, 3) := by decide +kernel
theorem dX11_nightStep_158 : decode cX11_nightStep 158 = .ok (.iload_n 3, 1) := by decide +kernel
theorem dX11_nightStep_159 : decode cX11_nightStep 159 = .ok (.iload 5, 2) := by decide +kernel
theorem dX11_nightStep_161 : decode cX11_nightStep 161 = .ok (.iadd, 1) := by decide +kernel
theorem dX11_nightStep_162 : decode cX11_nightStep 162 = .ok (.iconst 0, 1) := by decide +kernel
theorem dX11_nightStep_163 : decode cX11_nightStep 163 = .ok (.iastore, 1) := by decide +kernel
theorem dX11_nightStep_164 : decode cX11_nightStep 164 = .ok (.iinc 5 1, 3) := by decide +kernel
theorem dX11_nightStep_167 : decode cX11_nightStep 167 = .ok (.goto (-20), 3) := by decide +kernel
theorem dX11_nightStep_170 : decode cX11_nightStep 170 = .ok (.aload_n 0, 1) := by decide +kernel
theorem dX11_nightStep_171 : decode cX11_nightStep 171 = .ok (.getfield 7, 3) := by decide +kernel
theorem dX11_nightStep_174 : decode cX11_nightStep 174 = .ok (.sipush 2100, 3) := by decide +kernel
theorem dX11_nightStep_177 : decode cX11_nightStep 177 = .ok (.dup2, 1) := by decide +kernel
theorem dX11_nightStep_178 : decode cX11_nightStep 178 = .ok (.iaload, 1) := by decide +kernel
theorem dX11_nightStep_179 : decode cX11_nightStep 179 = .ok (.iconst 1, 1) := by decide +kernel
theorem dX11_nightStep_180 : decode cX11_nightStep 180 = .ok (.iadd, 1) := by decide +kernel
theorem dX11_nightStep_181 : decode cX11_nightStep 181 = .ok (.iastore, 1) := by decide +kernel
theorem dX11_nightStep_182 : decode cX11_nightStep 182 = .ok (.aload_n 0, 1) := by decide +kernel
theorem dX11_nightStep_183 : decode cX11_nightStep 183 = .ok (.invokevirtual 170, 3) := by decide +kernel
theorem dX11_nightStep_186 : decode cX11_nightStep 186 = .ok (.aload_n 0, 1) := by decide +kernel
theorem dX11_nightStep_187 : decode cX11_nightStep 187 = .ok (.iload_n 1, 1) := by decide +kernel
theorem dX11_nightStep_188 : decode cX11_nightStep 188 = .ok (.iload_n 3, 1) := by decide +kernel
theorem dX11_nightStep_189 : decode cX11_nightStep 189 = .ok (.invokevirtual 251, 3) := by decide +kernel
theorem dX11_nightStep_192 : decode cX11_nightStep 192 = .ok (.ifCond .ne 5, 3) := by decide +kernel
theorem dX11_nightStep_195 : decode cX11_nightStep 195 = .ok (.iconst 0, 1) := by decide +kernel
theorem dX11_nightStep_196 : decode cX11_nightStep 196 = .ok (.ireturn, 1) := by decide +kernel
theorem dX11_nightStep_197 : decode cX11_nightStep 197 = .ok (.iload 4, 2) := by decide +kernel
theorem dX11_nightStep_199 : decode cX11_nightStep 199 = .ok (.ifCond .eq 23, 3) := by decide +kernel
theorem dX11_nightStep_202 : decode cX11_nightStep 202 = .ok (.aload_n 0, 1) := by decide +kernel
theorem dX11_nightStep_203 : decode cX11_nightStep 203 = .ok (.getfield 44, 3) := by decide +kernel
theorem dX11_nightStep_206 : decode cX11_nightStep 206 = .ok (.aload_n 0, 1) := by decide +kernel
theorem dX11_nightStep_207 : decode cX11_nightStep 207 = .ok (.getfield 245, 3) := by decide +kernel
theorem dX11_nightStep_210 : decode cX11_nightStep 210 = .ok (.iload_n 2, 1) := by decide +kernel
theorem dX11_nightStep_211 : decode cX11_nightStep 211 = .ok (.iastore, 1) := by decide +kernel
theorem dX11_nightStep_212 : decode cX11_nightStep 212 = .ok (.aload_n 0, 1) := by decide +kernel
theorem dX11_nightStep_213 : decode cX11_nightStep 213 = .ok (.dup, 1) := by decide +kernel
theorem dX11_nightStep_214 : decode cX11_nightStep 214 = .ok (.getfield 245, 3) := by decide +kernel
theorem dX11_nightStep_217 : decode cX11_nightStep 217 = .ok (.iconst 1, 1) := by decide +kernel
theorem dX11_nightStep_218 : decode cX11_nightStep 218 = .ok (.iadd, 1) := by decide +kernel
theorem dX11_nightStep_219 : decode cX11_nightStep 219 = .ok (.putfield 245, 3) := by decide +kernel
theorem dX11_nightStep_222 : decode cX11_nightStep 222 = .ok (.iload_n 1, 1) := by decide +kernel
theorem dX11_nightStep_223 : decode cX11_nightStep 223 = .ok (.bipush 24, 2) := by decide +kernel
theorem dX11_nightStep_225 : decode cX11_nightStep 225 = .ok (.if_icmp .ne 54, 3) := by decide +kernel
theorem dX11_nightStep_228 : decode cX11_nightStep 228 = .ok (.aload_n 0, 1) := by decide +kernel
theorem dX11_nightStep_229 : decode cX11_nightStep 229 = .ok (.dup, 1) := by decide +kernel
theorem dX11_nightStep_230 : decode cX11_nightStep 230 = .ok (.getfield 245, 3) := by decide +kernel
theorem dX11_nightStep_233 : decode cX11_nightStep 233 = .ok (.iconst 1, 1) := by decide +kernel
theorem dX11_nightStep_234 : decode cX11_nightStep 234 = .ok (.isub, 1) := by decide +kernel
theorem dX11_nightStep_235 : decode cX11_nightStep 235 = .ok (.putfield 245, 3) := by decide +kernel
theorem dX11_nightStep_238 : decode cX11_nightStep 238 = .ok (.aload_n 0, 1) := by decide +kernel
theorem dX11_nightStep_239 : decode cX11_nightStep 239 = .ok (.getfield 7, 3) := by decide +kernel
theorem dX11_nightStep_242 : decode cX11_nightStep 242 = .ok (.iload_n 3, 1) := by decide +kernel
theorem dX11_nightStep_243 : decode cX11_nightStep 243 = .ok (.iconst 4, 1) := by decide +kernel
theorem dX11_nightStep_244 : decode cX11_nightStep 244 = .ok (.iadd, 1) := by decide +kernel
theorem dX11_nightStep_245 : decode cX11_nightStep 245 = .ok (.aload_n 0, 1) := by decide +kernel
theorem dX11_nightStep_246 : decode cX11_nightStep 246 = .ok (.getfield 44, 3) := by decide +kernel
theorem dX11_nightStep_249 : decode cX11_nightStep 249 = .ok (.aload_n 0, 1) := by decide +kernel
theorem dX11_nightStep_250 : decode cX11_nightStep 250 = .ok (.getfield 245, 3) := by decide +kernel
theorem dX11_nightStep_253 : decode cX11_nightStep 253 = .ok (.iaload, 1) := by decide +kernel
theorem dX11_nightStep_254 : decode cX11_nightStep 254 = .ok (.iastore, 1) := by decide +kernel
theorem dX11_nightStep_255 : decode cX11_nightStep 255 = .ok (.aload_n 0, 1) := by decide +kernel
theorem dX11_nightStep_256 : decode cX11_nightStep 256 = .ok (.getfield 7, 3) := by decide +kernel
theorem dX11_nightStep_259 : decode cX11_nightStep 259 = .ok (.sipush 2256, 3) := by decide +kernel
theorem dX11_nightStep_262 : decode cX11_nightStep 262 = .ok (.bipush 6, 2) := by decide +kernel
theorem dX11_nightStep_264 : decode cX11_nightStep 264 = .ok (.aload_n 0, 1) := by decide +kernel
theorem dX11_nightStep_265 : decode cX11_nightStep 265 = .ok (.getfield 44, 3) := by decide +kernel
theorem dX11_nightStep_268 : decode cX11_nightStep 268 = .ok (.aload_n 0, 1) := by decide +kernel
theorem dX11_nightStep_269 : decode cX11_nightStep 269 = .ok (.getfield 245, 3) := by decide +kernel
theorem dX11_nightStep_272 : decode cX11_nightStep 272 = .ok (.iaload, 1) := by decide +kernel
theorem dX11_nightStep_273 : decode cX11_nightStep 273 = .ok (.imul, 1) := by decide +kernel
theorem dX11_nightStep_274 : decode cX11_nightStep 274 = .ok (.iadd, 1) := by decide +kernel
theorem dX11_nightStep_275 : decode cX11_nightStep 275 = .ok (.iconst 4, 1) := by decide +kernel
theorem dX11_nightStep_276 : decode cX11_nightStep 276 = .ok (.iadd, 1) := by decide +kernel
theorem dX11_nightStep_277 : decode cX11_nightStep 277 = .ok (.iload_n 2, 1) := by decide +kernel
theorem dX11_nightStep_278 : decode cX11_nightStep 278 = .ok (.iastore, 1) := by decide +kernel
theorem dX11_nightStep_279 : decode cX11_nightStep 279 = .ok (.aload_n 0, 1) := by decide +kernel
theorem dX11_nightStep_280 : decode cX11_nightStep 280 = .ok (.bipush 59, 2) := by decide +kernel
theorem dX11_nightStep_282 : decode cX11_nightStep 282 = .ok (.invokevirtual 223, 3) := by decide +kernel
theorem dX11_nightStep_285 : decode cX11_nightStep 285 = .ok (.ireturn, 1) := by decide +kernel
theorem dX11_nights_0 : decode cX11_nights 0 = .ok (.aload_n 0, 1) := by decide +kernel
theorem dX11_nights_1 : decode cX11_nights 1 = .ok (.iload_n 1, 1) := by decide +kernel
theorem dX11_nights_2 : decode cX11_nights 2 = .ok (.sipush 300, 3) := by decide +kernel
theorem dX11_nights_5 : decode cX11_nights 5 = .ok (.invokevirtual 226, 3) := by decide +kernel
theorem dX11_nights_8 : decode cX11_nights 8 = .ok (.ifCond .ne 9, 3) := by decide +kernel
theorem dX11_nights_11 : decode cX11_nights 11 = .ok (.aload_n 0, 1) := by decide +kernel
theorem dX11_nights_12 : decode cX11_nights 12 = .ok (.iconst 1, 1) := by decide +kernel
theorem dX11_nights_13 : decode cX11_nights 13 = .ok (.invokevirtual 90, 3) := by decide +kernel
theorem dX11_nights_16 : decode cX11_nights 16 = .ok (.ireturn, 1) := by decide +kernel
theorem dX11_nights_17 : decode cX11_nights 17 = .ok (.aload_n 0, 1) := by decide +kernel
theorem dX11_nights_18 : decode cX11_nights 18 = .ok (.getfield 7, 3) := by decide +kernel
theorem dX11_nights_21 : decode cX11_nights 21 = .ok (.sipush 2100, 3) := by decide +kernel
theorem dX11_nights_24 : decode cX11_nights 24 = .ok (.iconst 0, 1) := by decide +kernel
theorem dX11_nights_25 : decode cX11_nights 25 = .ok (.iastore, 1) := by decide +kernel
theorem dX11_nights_26 : decode cX11_nights 26 = .ok (.aload_n 0, 1) := by decide +kernel
theorem dX11_nights_27 : decode cX11_nights 27 = .ok (.iconst 0, 1) := by decide +kernel
theorem dX11_nights_28 : decode cX11_nights 28 = .ok (.putfield 245, 3) := by decide +kernel
theorem dX11_nights_31 : decode cX11_nights 31 = .ok (.aload_n 0, 1) := by decide +kernel
theorem dX11_nights_32 : decode cX11_nights 32 = .ok (.iconst 0, 1) := by decide +kernel
theorem dX11_nights_33 : decode cX11_nights 33 = .ok (.putfield 248, 3) := by decide +kernel
theorem dX11_nights_36 : decode cX11_nights 36 = .ok (.iconst 1, 1) := by decide +kernel
theorem dX11_nights_37 : decode cX11_nights 37 = .ok (.istore_n 2, 1) := by decide +kernel
theorem dX11_nights_38 : decode cX11_nights 38 = .ok (.iload_n 2, 1) := by decide +kernel
theorem dX11_nights_39 : decode cX11_nights 39 = .ok (.ifCond .eq 18, 3) := by decide +kernel
theorem dX11_nights_42 : decode cX11_nights 42 = .ok (.aload_n 0, 1) := by decide +kernel
theorem dX11_nights_43 : decode cX11_nights 43 = .ok (.getfield 141, 3) := by decide +kernel
theorem dX11_nights_46 : decode cX11_nights 46 = .ok (.ifCond .eq 11, 3) := by decide +kernel
theorem dX11_nights_49 : decode cX11_nights 49 = .ok (.aload_n 0, 1) := by decide +kernel
theorem dX11_nights_50 : decode cX11_nights 50 = .ok (.invokevirtual 254, 3) := by decide +kernel
theorem dX11_nights_53 : decode cX11_nights 53 = .ok (.istore_n 2, 1) := by decide +kernel
theorem dX11_nights_54 : decode cX11_nights 54 = .ok (.goto (-16), 3) := by decide +kernel
theorem dX11_nights_57 : decode cX11_nights 57 = .ok (.aload_n 0, 1) := by decide +kernel
theorem dX11_nights_58 : decode cX11_nights 58 = .ok (.getfield 164, 3) := by decide +kernel
theorem dX11_nights_61 : decode cX11_nights 61 = .ok (.ifCond .ne 16, 3) := by decide +kernel
theorem dX11_nights_64 : decode cX11_nights 64 = .ok (.aload_n 0, 1) := by decide +kernel
theorem dX11_nights_65 : decode cX11_nights 65 = .ok (.getfield 245, 3) := by decide +kernel
theorem dX11_nights_68 : decode cX11_nights 68 = .ok (.ifCond .le 9, 3) := by decide +kernel
theorem dX11_nights_71 : decode cX11_nights 71 = .ok (.aload_n 0, 1) := by decide +kernel
theorem dX11_nights_72 : decode cX11_nights 72 = .ok (.iconst 2, 1) := by decide +kernel
theorem dX11_nights_73 : decode cX11_nights 73 = .ok (.invokevirtual 176, 3) := by decide +kernel
theorem dX11_nights_76 : decode cX11_nights 76 = .ok (.pop, 1) := by decide +kernel
theorem dX11_nights_77 : decode cX11_nights 77 = .ok (.aload_n 0, 1) := by decide +kernel
theorem dX11_nights_78 : decode cX11_nights 78 = .ok (.getfield 164, 3) := by decide +kernel
theorem dX11_nights_81 : decode cX11_nights 81 = .ok (.ifCond .ne 50, 3) := by decide +kernel
theorem dX11_nights_84 : decode cX11_nights 84 = .ok (.aload_n 0, 1) := by decide +kernel
theorem dX11_nights_85 : decode cX11_nights 85 = .ok (.getfield 7, 3) := by decide +kernel
theorem dX11_nights_88 : decode cX11_nights 88 = .ok (.iconst 4, 1) := by decide +kernel
theorem dX11_nights_89 : decode cX11_nights 89 = .ok (.aload_n 0, 1) := by decide +kernel
theorem dX11_nights_90 : decode cX11_nights 90 = .ok (.getfield 7, 3) := by decide +kernel
theorem dX11_nights_93 : decode cX11_nights 93 = .ok (.sipush 2100, 3) := by decide +kernel
theorem dX11_nights_96 : decode cX11_nights 96 = .ok (.iaload, 1) := by decide +kernel
theorem dX11_nights_97 : decode cX11_nights 97 = .ok (.iastore, 1) := by decide +kernel
theorem dX11_nights_98 : decode cX11_nights 98 = .ok (.sipush 160, 3) := by decide +kernel
theorem dX11_nights_101 : decode cX11_nights 101 = .ok (.istore_n 3, 1) := by decide +kernel
theorem dX11_nights_102 : decode cX11_nights 102 = .ok (.iload_n 3, 1) := by decide +kernel
theorem dX11_nights_103 : decode cX11_nights 103 = .ok (.sipush 520, 3) := by decide +kernel
theorem dX11_nights_106 : decode cX11_nights 106 = .ok (.if_icmp .ge 25, 3) := by decide +kernel
theorem dX11_nights_109 : decode cX11_nights 109 = .ok (.aload_n 0, 1) := by decide +kernel
theorem dX11_nights_110 : decode cX11_nights 110 = .ok (.getfield 7, 3) := by decide +kernel
theorem dX11_nights_113 : decode cX11_nights 113 = .ok (.iload_n 3, 1) := by decide +kernel
theorem dX11_nights_114 : decode cX11_nights 114 = .ok (.aload_n 0, 1) := by decide +kernel
theorem dX11_nights_115 : decode cX11_nights 115 = .ok (.getfield 7, 3) := by decide +kernel
theorem dX11_nights_118 : decode cX11_nights 118 = .ok (.sipush 2096, 3) := by decide +kernel
theorem dX11_nights_121 : decode cX11_nights 121 = .ok (.iload_n 3, 1) := by decide +kernel
theorem dX11_nights_122 : decode cX11_nights 122 = .ok (.iadd, 1) := by decide +kernel
theorem dX11_nights_123 : decode cX11_nights 123 = .ok (.iaload, 1) := by decide +kernel
theorem dX11_nights_124 : decode cX11_nights 124 = .ok (.iastore, 1) := by decide +kernel
theorem dX11_nights_125 : decode cX11_nights 125 = .ok (.iinc 3 1, 3) := by decide +kernel
theorem dX11_nights_128 : decode cX11_nights 128 = .ok (.goto (-26), 3) := by decide +kernel
theorem dX11_nights_131 : decode cX11_nights 131 = .ok (.aload_n 0, 1) := by decide +kernel
theorem dX11_nights_132 : decode cX11_nights 132 = .ok (.aload_n 0, 1) := by decide +kernel
theorem dX11_nights_133 : decode cX11_nights 133 = .ok (.getfield 248, 3) := by decide +kernel
theorem dX11_nights_136 : decode cX11_nights 136 = .ok (.invokevirtual 233, 3) := by decide +kernel
theorem dX11_nights_139 : decode cX11_nights 139 = .ok (.ireturn, 1) := by decide +kernel
theorem dX11_roomRow_0 : decode cX11_roomRow 0 = .ok (.bipush 6, 2) := by decide +kernel
theorem dX11_roomRow_2 : decode cX11_roomRow 2 = .ok (.bipush 7, 2) := by decide +kernel
theorem dX11_roomRow_4 : decode cX11_roomRow 4 = .ok (.iload_n 0, 1) := by decide +kernel
theorem dX11_roomRow_5 : decode cX11_roomRow 5 = .ok (.imul, 1) := by decide +kernel
theorem dX11_roomRow_6 : decode cX11_roomRow 6 = .ok (.iadd, 1) := by decide +kernel
theorem dX11_roomRow_7 : decode cX11_roomRow 7 = .ok (.ireturn, 1) := by decide +kernel
theorem dX11_doorRow_0 : decode cX11_doorRow 0 = .ok (.bipush 55, 2) := by decide +kernel
theorem dX11_doorRow_2 : decode cX11_doorRow 2 = .ok (.bipush 8, 2) := by decide +kernel
theorem dX11_doorRow_4 : decode cX11_doorRow 4 = .ok (.iload_n 0, 1) := by decide +kernel
theorem dX11_doorRow_5 : decode cX11_doorRow 5 = .ok (.imul, 1) := by decide +kernel
theorem dX11_doorRow_6 : decode cX11_doorRow 6 = .ok (.iadd, 1) := by decide +kernel
theorem dX11_doorRow_7 : decode cX11_doorRow 7 = .ok (.ireturn, 1) := by decide +kernel
theorem dX11_isRoom_0 : decode cX11_isRoom 0 = .ok (.iload_n 1, 1) := by decide +kernel
theorem dX11_isRoom_1 : decode cX11_isRoom 1 = .ok (.ifCond .lt 17, 3) := by decide +kernel
theorem dX11_isRoom_4 : decode cX11_isRoom 4 = .ok (.iload_n 1, 1) := by decide +kernel
theorem dX11_isRoom_5 : decode cX11_isRoom 5 = .ok (.aload_n 0, 1) := by decide +kernel
theorem dX11_isRoom_6 : decode cX11_isRoom 6 = .ok (.getfield 7, 3) := by decide +kernel
theorem dX11_isRoom_9 : decode cX11_isRoom 9 = .ok (.iconst 0, 1) := by decide +kernel
theorem dX11_isRoom_10 : decode cX11_isRoom 10 = .ok (.iaload, 1) := by decide +kernel
theorem dX11_isRoom_11 : decode cX11_isRoom 11 = .ok (.if_icmp .ge 7, 3) := by decide +kernel
theorem dX11_isRoom_14 : decode cX11_isRoom 14 = .ok (.iconst 1, 1) := by decide +kernel
theorem dX11_isRoom_15 : decode cX11_isRoom 15 = .ok (.goto 4, 3) := by decide +kernel
theorem dX11_isRoom_18 : decode cX11_isRoom 18 = .ok (.iconst 0, 1) := by decide +kernel
theorem dX11_isRoom_19 : decode cX11_isRoom 19 = .ok (.ireturn, 1) := by decide +kernel
theorem dX11_isDoor_0 : decode cX11_isDoor 0 = .ok (.iload_n 1, 1) := by decide +kernel
theorem dX11_isDoor_1 : decode cX11_isDoor 1 = .ok (.ifCond .lt 17, 3) := by decide +kernel
theorem dX11_isDoor_4 : decode cX11_isDoor 4 = .ok (.iload_n 1, 1) := by decide +kernel
theorem dX11_isDoor_5 : decode cX11_isDoor 5 = .ok (.aload_n 0, 1) := by decide +kernel
theorem dX11_isDoor_6 : decode cX11_isDoor 6 = .ok (.getfield 7, 3) := by decide +kernel
theorem dX11_isDoor_9 : decode cX11_isDoor 9 = .ok (.iconst 1, 1) := by decide +kernel
theorem dX11_isDoor_10 : decode cX11_isDoor 10 = .ok (.iaload, 1) := by decide +kernel
theorem dX11_isDoor_11 : decode cX11_isDoor 11 = .ok (.if_icmp .ge 7, 3) := by decide +kernel
theorem dX11_isDoor_14 : decode cX11_isDoor 14 = .ok (.iconst 1, 1) := by decide +kernel
theorem dX11_isDoor_15 : decode cX11_isDoor 15 = .ok (.goto 4, 3) := by decide +kernel
theorem dX11_isDoor_18 : decode cX11_isDoor 18 = .ok (.iconst 0, 1) := by decide +kernel
theorem dX11_isDoor_19 : decode cX11_isDoor 19 = .ok (.ireturn, 1) := by decide +kernel
theorem dX11_isHour_0 : decode cX11_isHour 0 = .ok (.iload_n 0, 1) := by decide +kernel
theorem dX11_isHour_1 : decode cX11_isHour 1 = .ok (.ifCond .lt 13, 3) := by decide +kernel
theorem dX11_isHour_4 : decode cX11_isHour 4 = .ok (.iload_n 0, 1) := by decide +kernel
theorem dX11_isHour_5 : decode cX11_isHour 5 = .ok (.bipush 12, 2) := by decide +kernel
theorem dX11_isHour_7 : decode cX11_isHour 7 = .ok (.if_icmp .ge 7, 3) := by decide +kernel
theorem dX11_isHour_10 : decode cX11_isHour 10 = .ok (.iconst 1, 1) := by decide +kernel
theorem dX11_isHour_11 : decode cX11_isHour 11 = .ok (.goto 4, 3) := by decide +kernel
theorem dX11_isHour_14 : decode cX11_isHour 14 = .ok (.iconst 0, 1) := by decide +kernel
theorem dX11_isHour_15 : decode cX11_isHour 15 = .ok (.ireturn, 1) := by decide +kernel
theorem dX11_isIn_0 : decode cX11_isIn 0 = .ok (.iload_n 1, 1) := by decide +kernel
theorem dX11_isIn_1 : decode cX11_isIn 1 = .ok (.iload_n 2, 1) := by decide +kernel
theorem dX11_isIn_2 : decode cX11_isIn 2 = .ok (.ishr, 1) := by decide +kernel
theorem dX11_isIn_3 : decode cX11_isIn 3 = .ok (.iconst 1, 1) := by decide +kernel
theorem dX11_isIn_4 : decode cX11_isIn 4 = .ok (.iand, 1) := by decide +kernel
theorem dX11_isIn_5 : decode cX11_isIn 5 = .ok (.iconst 1, 1) := by decide +kernel
theorem dX11_isIn_6 : decode cX11_isIn 6 = .ok (.if_icmp .ne 7, 3) := by decide +kernel
theorem dX11_isIn_9 : decode cX11_isIn 9 = .ok (.iconst 1, 1) := by decide +kernel
theorem dX11_isIn_10 : decode cX11_isIn 10 = .ok (.goto 4, 3) := by decide +kernel
theorem dX11_isIn_13 : decode cX11_isIn 13 = .ok (.iconst 0, 1) := by decide +kernel
theorem dX11_isIn_14 : decode cX11_isIn 14 = .ok (.ireturn, 1) := by decide +kernel
theorem dX11_bits_0 : decode cX11_bits 0 = .ok (.iconst 0, 1) := by decide +kernel
theorem dX11_bits_1 : decode cX11_bits 1 = .ok (.istore_n 1, 1) := by decide +kernel
theorem dX11_bits_2 : decode cX11_bits 2 = .ok (.iload_n 0, 1) := by decide +kernel
theorem dX11_bits_3 : decode cX11_bits 3 = .ok (.istore_n 2, 1) := by decide +kernel
theorem dX11_bits_4 : decode cX11_bits 4 = .ok (.iload_n 2, 1) := by decide +kernel
theorem dX11_bits_5 : decode cX11_bits 5 = .ok (.ifCond .eq 15, 3) := by decide +kernel
theorem dX11_bits_8 : decode cX11_bits 8 = .ok (.iinc 1 1, 3) := by decide +kernel
theorem dX11_bits_11 : decode cX11_bits 11 = .ok (.iload_n 2, 1) := by decide +kernel
theorem dX11_bits_12 : decode cX11_bits 12 = .ok (.iload_n 2, 1) := by decide +kernel
theorem dX11_bits_13 : decode cX11_bits 13 = .ok (.iconst 1, 1) := by decide +kernel
theorem dX11_bits_14 : decode cX11_bits 14 = .ok (.isub, 1) := by decide +kernel
theorem dX11_bits_15 : decode cX11_bits 15 = .ok (.iand, 1) := by decide +kernel
theorem dX11_bits_16 : decode cX11_bits 16 = .ok (.istore_n 2, 1) := by decide +kernel
theorem dX11_bits_17 : decode cX11_bits 17 = .ok (.goto (-13), 3) := by decide +kernel
theorem dX11_bits_20 : decode cX11_bits 20 = .ok (.iload_n 1, 1) := by decide +kernel
theorem dX11_bits_21 : decode cX11_bits 21 = .ok (.ireturn, 1) := by decide +kernel
theorem dX11_roomOf_0 : decode cX11_roomOf 0 = .ok (.aload_n 0, 1) := by decide +kernel
theorem dX11_roomOf_1 : decode cX11_roomOf 1 = .ok (.getfield 7, 3) := by decide +kernel
theorem dX11_roomOf_4 : decode cX11_roomOf 4 = .ok (.iload_n 1, 1) := by decide +kernel
theorem dX11_roomOf_5 : decode cX11_roomOf 5 = .ok (.invokestatic 257, 3) := by decide +kernel
theorem dX11_roomOf_8 : decode cX11_roomOf 8 = .ok (.iload_n 2, 1) := by decide +kernel
theorem dX11_roomOf_9 : decode cX11_roomOf 9 = .ok (.iadd, 1) := by decide +kernel
theorem dX11_roomOf_10 : decode cX11_roomOf 10 = .ok (.iaload, 1) := by decide +kernel
theorem dX11_roomOf_11 : decode cX11_roomOf 11 = .ok (.ireturn, 1) := by decide +kernel
theorem dX11_doorOf_0 : decode cX11_doorOf 0 = .ok (.aload_n 0, 1) := by decide +kernel
theorem dX11_doorOf_1 : decode cX11_doorOf 1 = .ok (.getfield 7, 3) := by decide +kernel
theorem dX11_doorOf_4 : decode cX11_doorOf 4 = .ok (.iload_n 1, 1) := by decide +kernel
theorem dX11_doorOf_5 : decode cX11_doorOf 5 = .ok (.invokestatic 260, 3) := by decide +kernel
theorem dX11_doorOf_8 : decode cX11_doorOf 8 = .ok (.iload_n 2, 1) := by decide +kernel
theorem dX11_doorOf_9 : decode cX11_doorOf 9 = .ok (.iadd, 1) := by decide +kernel
theorem dX11_doorOf_10 : decode cX11_doorOf 10 = .ok (.iaload, 1) := by decide +kernel
theorem dX11_doorOf_11 : decode cX11_doorOf 11 = .ok (.ireturn, 1) := by decide +kernel
theorem dX11_now_0 : decode cX11_now 0 = .ok (.aload_n 0, 1) := by decide +kernel
theorem dX11_now_1 : decode cX11_now 1 = .ok (.getfield 7, 3) := by decide +kernel
theorem dX11_now_4 : decode cX11_now 4 = .ok (.iconst 3, 1) := by decide +kernel
theorem dX11_now_5 : decode cX11_now 5 = .ok (.iaload, 1) := by decide +kernel
theorem dX11_now_6 : decode cX11_now 6 = .ok (.bipush 12, 2) := by decide +kernel
theorem dX11_now_8 : decode cX11_now 8 = .ok (.irem, 1) := by decide +kernel
theorem dX11_now_9 : decode cX11_now 9 = .ok (.ireturn, 1) := by decide +kernel
theorem dX11_depthOf_0 : decode cX11_depthOf 0 = .ok (.aload_n 0, 1) := by decide +kernel
theorem dX11_depthOf_1 : decode cX11_depthOf 1 = .ok (.iload_n 1, 1) := by decide +kernel
theorem dX11_depthOf_2 : decode cX11_depthOf 2 = .ok (.iconst 4, 1) := by decide +kernel
theorem dX11_depthOf_3 : decode cX11_depthOf 3 = .ok (.invokevirtual 263, 3) := by decide +kernel
theorem dX11_depthOf_6 : decode cX11_depthOf 6 = .ok (.aload_n 0, 1) := by decide +kernel
theorem dX11_depthOf_7 : decode cX11_depthOf 7 = .ok (.iload_n 1, 1) := by decide +kernel
theorem dX11_depthOf_8 : decode cX11_depthOf 8 = .ok (.iconst 1, 1) := by decide +kernel
theorem dX11_depthOf_9 : decode cX11_depthOf 9 = .ok (.invokevirtual 263, 3) := by decide +kernel
theorem dX11_depthOf_12 : decode cX11_depthOf 12 = .ok (.idiv, 1) := by decide +kernel
theorem dX11_depthOf_13 : decode cX11_depthOf 13 = .ok (.ireturn, 1) := by decide +kernel
theorem dX11_surfaceOf_0 : decode cX11_surfaceOf 0 = .ok (.iload_n 1, 1) := by decide +kernel
theorem dX11_surfaceOf_1 : decode cX11_surfaceOf 1 = .ok (.iconst (-1), 1) := by decide +kernel
theorem dX11_surfaceOf_2 : decode cX11_surfaceOf 2 = .ok (.if_icmp .ne 19, 3) := by decide +kernel
theorem dX11_surfaceOf_5 : decode cX11_surfaceOf 5 = .ok (.aload_n 0, 1) := by decide +kernel
theorem dX11_surfaceOf_6 : decode cX11_surfaceOf 6 = .ok (.getfield 7, 3) := by decide +kernel
theorem dX11_surfaceOf_9 : decode cX11_surfaceOf 9 = .ok (.sipush 135, 3) := by decide +kernel
theorem dX11_surfaceOf_12 : decode cX11_surfaceOf 12 = .ok (.aload_n 0, 1) := by decide +kernel
theorem dX11_surfaceOf_13 : decode cX11_surfaceOf 13 = .ok (.invokevirtual 266, 3) := by decide +kernel
theorem dX11_surfaceOf_16 : decode cX11_surfaceOf 16 = .ok (.iadd, 1) := by decide +kernel
theorem dX11_surfaceOf_17 : decode cX11_surfaceOf 17 = .ok (.iaload, 1) := by decide +kernel
theorem dX11_surfaceOf_18 : decode cX11_surfaceOf 18 = .ok (.goto 15, 3) := by decide +kernel
theorem dX11_surfaceOf_21 : decode cX11_surfaceOf 21 = .ok (.aload_n 0, 1) := by decide +kernel
theorem dX11_surfaceOf_22 : decode cX11_surfaceOf 22 = .ok (.iload_n 1, 1) := by decide +kernel
theorem dX11_surfaceOf_23 : decode cX11_surfaceOf 23 = .ok (.iconst 0, 1) := by decide +kernel
theorem dX11_surfaceOf_24 : decode cX11_surfaceOf 24 = .ok (.invokevirtual 263, 3) := by decide +kernel
theorem dX11_surfaceOf_27 : decode cX11_surfaceOf 27 = .ok (.aload_n 0, 1) := by decide +kernel
theorem dX11_surfaceOf_28 : decode cX11_surfaceOf 28 = .ok (.iload_n 1, 1) := by decide +kernel
theorem dX11_surfaceOf_29 : decode cX11_surfaceOf 29 = .ok (.invokevirtual 269, 3) := by decide +kernel
theorem dX11_surfaceOf_32 : decode cX11_surfaceOf 32 = .ok (.iadd, 1) := by decide +kernel
theorem dX11_surfaceOf_33 : decode cX11_surfaceOf 33 = .ok (.ireturn, 1) := by decide +kernel
theorem dX11_isOpen_0 : decode cX11_isOpen 0 = .ok (.aload_n 0, 1) := by decide +kernel
theorem dX11_isOpen_1 : decode cX11_isOpen 1 = .ok (.iload_n 1, 1) := by decide +kernel
theorem dX11_isOpen_2 : decode cX11_isOpen 2 = .ok (.bipush 7, 2) := by decide +kernel
theorem dX11_isOpen_4 : decode cX11_isOpen 4 = .ok (.invokevirtual 272, 3) := by decide +kernel
theorem dX11_isOpen_7 : decode cX11_isOpen 7 = .ok (.iconst 1, 1) := by decide +kernel
theorem dX11_isOpen_8 : decode cX11_isOpen 8 = .ok (.if_icmp .ne 5, 3) := by decide +kernel
theorem dX11_isOpen_11 : decode cX11_isOpen 11 = .ok (.iconst 0, 1) := by decide +kernel
theorem dX11_isOpen_12 : decode cX11_isOpen 12 = .ok (.ireturn, 1) := by decide +kernel
theorem dX11_isOpen_13 : decode cX11_isOpen 13 = .ok (.aload_n 0, 1) := by decide +kernel
theorem dX11_isOpen_14 : decode cX11_isOpen 14 = .ok (.getfield 47, 3) := by decide +kernel
theorem dX11_isOpen_17 : decode cX11_isOpen 17 = .ok (.iconst (-1), 1) := by decide +kernel
theorem dX11_isOpen_18 : decode cX11_isOpen 18 = .ok (.if_icmp .eq 13, 3) := by decide +kernel
theorem dX11_isOpen_21 : decode cX11_isOpen 21 = .ok (.aload_n 0, 1) := by decide +kernel
theorem dX11_isOpen_22 : decode cX11_isOpen 22 = .ok (.aload_n 0, 1) := by decide +kernel
theorem dX11_isOpen_23 : decode cX11_isOpen 23 = .ok (.getfield 47, 3) := by decide +kernel
theorem dX11_isOpen_26 : decode cX11_isOpen 26 = .ok (.iload_n 1, 1) := by decide +kernel
theorem dX11_isOpen_27 : decode cX11_isOpen 27 = .ok (.invokevirtual 275, 3) := by decide +kernel
theorem dX11_isOpen_30 : decode cX11_isOpen 30 = .ok (.ireturn, 1) := by decide +kernel
theorem dX11_isOpen_31 : decode cX11_isOpen 31 = .ok (.aload_n 0, 1) := by decide +kernel
theorem dX11_isOpen_32 : decode cX11_isOpen 32 = .ok (.getfield 50, 3) := by decide +kernel
theorem dX11_isOpen_35 : decode cX11_isOpen 35 = .ok (.iconst (-1), 1) := by decide +kernel
theorem dX11_isOpen_36 : decode cX11_isOpen 36 = .ok (.if_icmp .eq 32, 3) := by decide +kernel
theorem dX11_isOpen_39 : decode cX11_isOpen 39 = .ok (.aload_n 0, 1) := by decide +kernel
theorem dX11_isOpen_40 : decode cX11_isOpen 40 = .ok (.iload_n 1, 1) := by decide +kernel
theorem dX11_isOpen_41 : decode cX11_isOpen 41 = .ok (.bipush 6, 2) := by decide +kernel
theorem dX11_isOpen_43 : decode cX11_isOpen 43 = .ok (.invokevirtual 272, 3) := by decide +kernel
theorem dX11_isOpen_46 : decode cX11_isOpen 46 = .ok (.iconst 1, 1) := by decide +kernel
theorem dX11_isOpen_47 : decode cX11_isOpen 47 = .ok (.if_icmp .eq 15, 3) := by decide +kernel
theorem dX11_isOpen_50 : decode cX11_isOpen 50 = .ok (.aload_n 0, 1) := by decide +kernel
theorem dX11_isOpen_51 : decode cX11_isOpen 51 = .ok (.aload_n 0, 1) := by decide +kernel
theorem dX11_isOpen_52 : decode cX11_isOpen 52 = .ok (.getfield 50, 3) := by decide +kernel
theorem dX11_isOpen_55 : decode cX11_isOpen 55 = .ok (.iload_n 1, 1) := by decide +kernel
theorem dX11_isOpen_56 : decode cX11_isOpen 56 = .ok (.invokevirtual 275, 3) := by decide +kernel
theorem dX11_isOpen_59 : decode cX11_isOpen 59 = .ok (.ifCond .eq 7, 3) := by decide +kernel
theorem dX11_isOpen_62 : decode cX11_isOpen 62 = .ok (.iconst 1, 1) := by decide +kernel
theorem dX11_isOpen_63 : decode cX11_isOpen 63 = .ok (.goto 4, 3) := by decide +kernel
theorem dX11_isOpen_66 : decode cX11_isOpen 66 = .ok (.iconst 0, 1) := by decide +kernel
theorem dX11_isOpen_67 : decode cX11_isOpen 67 = .ok (.ireturn, 1) := by decide +kernel
theorem dX11_isOpen_68 : decode cX11_isOpen 68 = .ok (.aload_n 0, 1) := by decide +kernel
theorem dX11_isOpen_69 : decode cX11_isOpen 69 = .ok (.iload_n 1, 1) := by decide +kernel
theorem dX11_isOpen_70 : decode cX11_isOpen 70 = .ok (.bipush 6, 2) := by decide +kernel
theorem dX11_isOpen_72 : decode cX11_isOpen 72 = .ok (.invokevirtual 272, 3) := by decide +kernel
theorem dX11_isOpen_75 : decode cX11_isOpen 75 = .ok (.iconst 1, 1) := by decide +kernel
theorem dX11_isOpen_76 : decode cX11_isOpen 76 = .ok (.if_icmp .eq 20, 3) := by decide +kernel
theorem dX11_isOpen_79 : decode cX11_isOpen 79 = .ok (.aload_n 0, 1) := by decide +kernel
theorem dX11_isOpen_80 : decode cX11_isOpen 80 = .ok (.aload_n 0, 1) := by decide +kernel
theorem dX11_isOpen_81 : decode cX11_isOpen 81 = .ok (.iload_n 1, 1) := by decide +kernel
theorem dX11_isOpen_82 : decode cX11_isOpen 82 = .ok (.iconst 5, 1) := by decide +kernel
theorem dX11_isOpen_83 : decode cX11_isOpen 83 = .ok (.invokevirtual 272, 3) := by decide +kernel
theorem dX11_isOpen_86 : decode cX11_isOpen 86 = .ok (.aload_n 0, 1) := by decide +kernel
theorem dX11_isOpen_87 : decode cX11_isOpen 87 = .ok (.invokevirtual 266, 3) := by decide +kernel
theorem dX11_isOpen_90 : decode cX11_isOpen 90 = .ok (.invokevirtual 275, 3) := by decide +kernel
theorem dX11_isOpen_93 : decode cX11_isOpen 93 = .ok (.ifCond .eq 7, 3) := by decide +kernel
theorem dX11_isOpen_96 : decode cX11_isOpen 96 = .ok (.iconst 1, 1) := by decide +kernel
theorem dX11_isOpen_97 : decode cX11_isOpen 97 = .ok (.goto 4, 3) := by decide +kernel
theorem dX11_isOpen_100 : decode cX11_isOpen 100 = .ok (.iconst 0, 1) := by decide +kernel
theorem dX11_isOpen_101 : decode cX11_isOpen 101 = .ok (.ireturn, 1) := by decide +kernel
theorem dX11_driveOf_0 : decode cX11_driveOf 0 = .ok (.aload_n 0, 1) := by decide +kernel
theorem dX11_driveOf_1 : decode cX11_driveOf 1 = .ok (.aload_n 0, 1) := by decide +kernel
theorem dX11_driveOf_2 : decode cX11_driveOf 2 = .ok (.iload_n 1, 1) := by decide +kernel
theorem dX11_driveOf_3 : decode cX11_driveOf 3 = .ok (.iconst 0, 1) := by decide +kernel
theorem dX11_driveOf_4 : decode cX11_driveOf 4 = .ok (.invokevirtual 272, 3) := by decide +kernel
theorem dX11_driveOf_7 : decode cX11_driveOf 7 = .ok (.invokevirtual 278, 3) := by decide +kernel
theorem dX11_driveOf_10 : decode cX11_driveOf 10 = .ok (.istore_n 2, 1) := by decide +kernel
theorem dX11_driveOf_11 : decode cX11_driveOf 11 = .ok (.aload_n 0, 1) := by decide +kernel
theorem dX11_driveOf_12 : decode cX11_driveOf 12 = .ok (.aload_n 0, 1) := by decide +kernel
theorem dX11_driveOf_13 : decode cX11_driveOf 13 = .ok (.iload_n 1, 1) := by decide +kernel
theorem dX11_driveOf_14 : decode cX11_driveOf 14 = .ok (.iconst 1, 1) := by decide +kernel
theorem dX11_driveOf_15 : decode cX11_driveOf 15 = .ok (.invokevirtual 272, 3) := by decide +kernel
theorem dX11_driveOf_18 : decode cX11_driveOf 18 = .ok (.invokevirtual 278, 3) := by decide +kernel
theorem dX11_driveOf_21 : decode cX11_driveOf 21 = .ok (.istore_n 3, 1) := by decide +kernel
theorem dX11_driveOf_22 : decode cX11_driveOf 22 = .ok (.iconst 0, 1) := by decide +kernel
theorem dX11_driveOf_23 : decode cX11_driveOf 23 = .ok (.iload_n 2, 1) := by decide +kernel
theorem dX11_driveOf_24 : decode cX11_driveOf 24 = .ok (.iload_n 3, 1) := by decide +kernel
theorem dX11_driveOf_25 : decode cX11_driveOf 25 = .ok (.invokestatic 281, 3) := by decide +kernel
theorem dX11_driveOf_28 : decode cX11_driveOf 28 = .ok (.aload_n 0, 1) := by decide +kernel
theorem dX11_driveOf_29 : decode cX11_driveOf 29 = .ok (.iload_n 1, 1) := by decide +kernel
theorem dX11_driveOf_30 : decode cX11_driveOf 30 = .ok (.iconst 2, 1) := by decide +kernel
theorem dX11_driveOf_31 : decode cX11_driveOf 31 = .ok (.invokevirtual 272, 3) := by decide +kernel
theorem dX11_driveOf_34 : decode cX11_driveOf 34 = .ok (.isub, 1) := by decide +kernel
theorem dX11_driveOf_35 : decode cX11_driveOf 35 = .ok (.iload_n 2, 1) := by decide +kernel
theorem dX11_driveOf_36 : decode cX11_driveOf 36 = .ok (.iload_n 3, 1) := by decide +kernel
theorem dX11_driveOf_37 : decode cX11_driveOf 37 = .ok (.isub, 1) := by decide +kernel
theorem dX11_driveOf_38 : decode cX11_driveOf 38 = .ok (.invokestatic 284, 3) := by decide +kernel
theorem dX11_driveOf_41 : decode cX11_driveOf 41 = .ok (.invokestatic 151, 3) := by decide +kernel
theorem dX11_driveOf_44 : decode cX11_driveOf 44 = .ok (.invokestatic 281, 3) := by decide +kernel
theorem dX11_driveOf_47 : decode cX11_driveOf 47 = .ok (.ireturn, 1) := by decide +kernel
theorem dX11_flowBy_0 : decode cX11_flowBy 0 = .ok (.aload_n 0, 1) := by decide +kernel
theorem dX11_flowBy_1 : decode cX11_flowBy 1 = .ok (.iload_n 1, 1) := by decide +kernel
theorem dX11_flowBy_2 : decode cX11_flowBy 2 = .ok (.invokevirtual 286, 3) := by decide +kernel
theorem dX11_flowBy_5 : decode cX11_flowBy 5 = .ok (.aload_n 0, 1) := by decide +kernel
theorem dX11_flowBy_6 : decode cX11_flowBy 6 = .ok (.iload_n 1, 1) := by decide +kernel
theorem dX11_flowBy_7 : decode cX11_flowBy 7 = .ok (.iconst 3, 1) := by decide +kernel
theorem dX11_flowBy_8 : decode cX11_flowBy 8 = .ok (.invokevirtual 272, 3) := by decide +kernel
theorem dX11_flowBy_11 : decode cX11_flowBy 11 = .ok (.imul, 1) := by decide +kernel
theorem dX11_flowBy_12 : decode cX11_flowBy 12 = .ok (.istore_n 3, 1) := by decide +kernel
theorem dX11_flowBy_13 : decode cX11_flowBy 13 = .ok (.iload_n 2, 1) := by decide +kernel
theorem dX11_flowBy_14 : decode cX11_flowBy 14 = .ok (.ifCond .ne 29, 3) := by decide +kernel
theorem dX11_flowBy_17 : decode cX11_flowBy 17 = .ok (.aload_n 0, 1) := by decide +kernel
theorem dX11_flowBy_18 : decode cX11_flowBy 18 = .ok (.iload_n 1, 1) := by decide +kernel
theorem dX11_flowBy_19 : decode cX11_flowBy 19 = .ok (.bipush 7, 2) := by decide +kernel
theorem dX11_flowBy_21 : decode cX11_flowBy 21 = .ok (.invokevirtual 272, 3) := by decide +kernel
theorem dX11_flowBy_24 : decode cX11_flowBy 24 = .ok (.iconst 1, 1) := by decide +kernel
theorem dX11_flowBy_25 : decode cX11_flowBy 25 = .ok (.if_icmp .ne 7, 3) := by decide +kernel
theorem dX11_flowBy_28 : decode cX11_flowBy 28 = .ok (.iconst 0, 1) := by decide +kernel
theorem dX11_flowBy_29 : decode cX11_flowBy 29 = .ok (.goto 13, 3) := by decide +kernel
theorem dX11_flowBy_32 : decode cX11_flowBy 32 = .ok (.iload_n 3, 1) := by decide +kernel
theorem dX11_flowBy_33 : decode cX11_flowBy 33 = .ok (.aload_n 0, 1) := by decide +kernel
theorem dX11_flowBy_34 : decode cX11_flowBy 34 = .ok (.iload_n 1, 1) := by decide +kernel
theorem dX11_flowBy_35 : decode cX11_flowBy 35 = .ok (.iconst 4, 1) := by decide +kernel
theorem dX11_flowBy_36 : decode cX11_flowBy 36 = .ok (.invokevirtual 272, 3) := by decide +kernel
theorem dX11_flowBy_39 : decode cX11_flowBy 39 = .ok (.invokestatic 151, 3) := by decide +kernel
theorem dX11_flowBy_42 : decode cX11_flowBy 42 = .ok (.istore_n 3, 1) := by decide +kernel
theorem dX11_flowBy_43 : decode cX11_flowBy 43 = .ok (.aload_n 0, 1) := by decide +kernel
theorem dX11_flowBy_44 : decode cX11_flowBy 44 = .ok (.aload_n 0, 1) := by decide +kernel
theorem dX11_flowBy_45 : decode cX11_flowBy 45 = .ok (.iload_n 1, 1) := by decide +kernel
theorem dX11_flowBy_46 : decode cX11_flowBy 46 = .ok (.iconst 0, 1) := by decide +kernel
theorem dX11_flowBy_47 : decode cX11_flowBy 47 = .ok (.invokevirtual 272, 3) := by decide +kernel
theorem dX11_flowBy_50 : decode cX11_flowBy 50 = .ok (.invokevirtual 278, 3) := by decide +kernel
theorem dX11_flowBy_53 : decode cX11_flowBy 53 = .ok (.aload_n 0, 1) := by decide +kernel
theorem dX11_flowBy_54 : decode cX11_flowBy 54 = .ok (.aload_n 0, 1) := by decide +kernel
theorem dX11_flowBy_55 : decode cX11_flowBy 55 = .ok (.iload_n 1, 1) := by decide +kernel
theorem dX11_flowBy_56 : decode cX11_flowBy 56 = .ok (.iconst 1, 1) := by decide +kernel
theorem dX11_flowBy_57 : decode cX11_flowBy 57 = .ok (.invokevirtual 272, 3) := by decide +kernel
theorem dX11_flowBy_60 : decode cX11_flowBy 60 = .ok (.invokevirtual 278, 3) := by decide +kernel
theorem dX11_flowBy_63 : decode cX11_flowBy 63 = .ok (.if_icmp .lt 7, 3) := by decide +kernel
theorem dX11_flowBy_66 : decode cX11_flowBy 66 = .ok (.iload_n 3, 1) := by decide +kernel
theorem dX11_flowBy_67 : decode cX11_flowBy 67 = .ok (.goto 5, 3) := by decide +kernel
theorem dX11_flowBy_70 : decode cX11_flowBy 70 = .ok (.iload_n 3, 1) := by decide +kernel
theorem dX11_flowBy_71 : decode cX11_flowBy 71 = .ok (.ineg, 1) := by decide +kernel
theorem dX11_flowBy_72 : decode cX11_flowBy 72 = .ok (.ireturn, 1) := by decide +kernel
theorem dX11_flowOf_0 : decode cX11_flowOf 0 = .ok (.aload_n 0, 1) := by decide +kernel
theorem dX11_flowOf_1 : decode cX11_flowOf 1 = .ok (.iload_n 1, 1) := by decide +kernel
theorem dX11_flowOf_2 : decode cX11_flowOf 2 = .ok (.aload_n 0, 1) := by decide +kernel
theorem dX11_flowOf_3 : decode cX11_flowOf 3 = .ok (.iload_n 1, 1) := by decide +kernel
theorem dX11_flowOf_4 : decode cX11_flowOf 4 = .ok (.invokevirtual 289, 3) := by decide +kernel
theorem dX11_flowOf_7 : decode cX11_flowOf 7 = .ok (.invokevirtual 292, 3) := by decide +kernel
theorem dX11_flowOf_10 : decode cX11_flowOf 10 = .ok (.ireturn, 1) := by decide +kernel
theorem dX11_allWater_0 : decode cX11_allWater 0 = .ok (.iconst 0, 1) := by decide +kernel
theorem dX11_allWater_1 : decode cX11_allWater 1 = .ok (.istore_n 1, 1) := by decide +kernel
theorem dX11_allWater_2 : decode cX11_allWater 2 = .ok (.iconst 0, 1) := by decide +kernel
theorem dX11_allWater_3 : decode cX11_allWater 3 = .ok (.istore_n 2, 1) := by decide +kernel
theorem dX11_allWater_4 : decode cX11_allWater 4 = .ok (.iload_n 2, 1) := by decide +kernel
theorem dX11_allWater_5 : decode cX11_allWater 5 = .ok (.aload_n 0, 1) := by decide +kernel
theorem dX11_allWater_6 : decode cX11_allWater 6 = .ok (.getfield 7, 3) := by decide +kernel
theorem dX11_allWater_9 : decode cX11_allWater 9 = .ok (.iconst 0, 1) := by decide +kernel
theorem dX11_allWater_10 : decode cX11_allWater 10 = .ok (.iaload, 1) := by decide +kernel
theorem dX11_allWater_11 : decode cX11_allWater 11 = .ok (.if_icmp .ge 18, 3) := by decide +kernel
theorem dX11_allWater_14 : decode cX11_allWater 14 = .ok (.iload_n 1, 1) := by decide +kernel
theorem dX11_allWater_15 : decode cX11_allWater 15 = .ok (.aload_n 0, 1) := by decide +kernel
theorem dX11_allWater_16 : decode cX11_allWater 16 = .ok (.iload_n 2, 1) := by decide +kernel
theorem dX11_allWater_17 : decode cX11_allWater 17 = .ok (.iconst 4, 1) := by decide +kernel
theorem dX11_allWater_18 : decode cX11_allWater 18 = .ok (.invokevirtual 263, 3) := by decide +kernel
theorem dX11_allWater_21 : decode cX11_allWater 21 = .ok (.iadd, 1) := by decide +kernel
theorem dX11_allWater_22 : decode cX11_allWater 22 = .ok (.istore_n 1, 1) := by decide +kernel
theorem dX11_allWater_23 : decode cX11_allWater 23 = .ok (.iinc 2 1, 3) := by decide +kernel
theorem dX11_allWater_26 : decode cX11_allWater 26 = .ok (.goto (-22), 3) := by decide +kernel
theorem dX11_allWater_29 : decode cX11_allWater 29 = .ok (.iload_n 1, 1) := by decide +kernel
theorem dX11_allWater_30 : decode cX11_allWater 30 = .ok (.ireturn, 1) := by decide +kernel
theorem dX11_setOf_0 : decode cX11_setOf 0 = .ok (.iconst 0, 1) := by decide +kernel
theorem dX11_setOf_1 : decode cX11_setOf 1 = .ok (.istore_n 2, 1) := by decide +kernel
theorem dX11_setOf_2 : decode cX11_setOf 2 = .ok (.iconst 0, 1) := by decide +kernel
theorem dX11_setOf_3 : decode cX11_setOf 3 = .ok (.istore_n 3, 1) := by decide +kernel
theorem dX11_setOf_4 : decode cX11_setOf 4 = .ok (.iload_n 3, 1) := by decide +kernel
theorem dX11_setOf_5 : decode cX11_setOf 5 = .ok (.aload_n 0, 1) := by decide +kernel
theorem dX11_setOf_6 : decode cX11_setOf 6 = .ok (.getfield 7, 3) := by decide +kernel
theorem dX11_setOf_9 : decode cX11_setOf 9 = .ok (.iconst 0, 1) := by decide +kernel
theorem dX11_setOf_10 : decode cX11_setOf 10 = .ok (.iaload, 1) := by decide +kernel
theorem dX11_setOf_11 : decode cX11_setOf 11 = .ok (.if_icmp .ge 49, 3) := by decide +kernel
theorem dX11_setOf_14 : decode cX11_setOf 14 = .ok (.iload_n 1, 1) := by decide +kernel
theorem dX11_setOf_15 : decode cX11_setOf 15 = .ok (.iconst 2, 1) := by decide +kernel
theorem dX11_setOf_16 : decode cX11_setOf 16 = .ok (.if_icmp .ge 44, 3) := by decide +kernel
theorem dX11_setOf_19 : decode cX11_setOf 19 = .ok (.iload_n 2, 1) := by decide +kernel
theorem dX11_setOf_20 : decode cX11_setOf 20 = .ok (.iload_n 1, 1) := by decide +kernel
theorem dX11_setOf_21 : decode cX11_setOf 21 = .ok (.ifCond .ne 14, 3) := by decide +kernel
theorem dX11_setOf_24 : decode cX11_setOf 24 = .ok (.aload_n 0, 1) := by decide +kernel
theorem dX11_setOf_25 : decode cX11_setOf 25 = .ok (.iload_n 3, 1) := by decide +kernel
theorem dX11_setOf_26 : decode cX11_setOf 26 = .ok (.invokevirtual 269, 3) := by decide +kernel
theorem dX11_setOf_29 : decode cX11_setOf 29 = .ok (.ifCond .le 22, 3) := by decide +kernel
theorem dX11_setOf_32 : decode cX11_setOf 32 = .ok (.goto 13, 3) := by decide +kernel
theorem dX11_setOf_35 : decode cX11_setOf 35 = .ok (.aload_n 0, 1) := by decide +kernel
theorem dX11_setOf_36 : decode cX11_setOf 36 = .ok (.iload_n 3, 1) := by decide +kernel
theorem dX11_setOf_37 : decode cX11_setOf 37 = .ok (.iconst 5, 1) := by decide +kernel
theorem dX11_setOf_38 : decode cX11_setOf 38 = .ok (.invokevirtual 263, 3) := by decide +kernel
theorem dX11_setOf_41 : decode cX11_setOf 41 = .ok (.iconst 1, 1) := by decide +kernel
theorem dX11_setOf_42 : decode cX11_setOf 42 = .ok (.if_icmp .ne 9, 3) := by decide +kernel
theorem dX11_setOf_45 : decode cX11_setOf 45 = .ok (.iconst 1, 1) := by decide +kernel
theorem dX11_setOf_46 : decode cX11_setOf 46 = .ok (.iload_n 3, 1) := by decide +kernel
theorem dX11_setOf_47 : decode cX11_setOf 47 = .ok (.ishl, 1) := by decide +kernel
theorem dX11_setOf_48 : decode cX11_setOf 48 = .ok (.goto 4, 3) := by decide +kernel
theorem dX11_setOf_51 : decode cX11_setOf 51 = .ok (.iconst 0, 1) := by decide +kernel
theorem dX11_setOf_52 : decode cX11_setOf 52 = .ok (.ior, 1) := by decide +kernel
theorem dX11_setOf_53 : decode cX11_setOf 53 = .ok (.istore_n 2, 1) := by decide +kernel
theorem dX11_setOf_54 : decode cX11_setOf 54 = .ok (.iinc 3 1, 3) := by decide +kernel
theorem dX11_setOf_57 : decode cX11_setOf 57 = .ok (.goto (-53), 3) := by decide +kernel
theorem dX11_setOf_60 : decode cX11_setOf 60 = .ok (.iconst 0, 1) := by decide +kernel
theorem dX11_setOf_61 : decode cX11_setOf 61 = .ok (.istore_n 3, 1) := by decide +kernel
theorem dX11_setOf_62 : decode cX11_setOf 62 = .ok (.iload_n 3, 1) := by decide +kernel
theorem dX11_setOf_63 : decode cX11_setOf 63 = .ok (.aload_n 0, 1) := by decide +kernel
theorem dX11_setOf_64 : decode cX11_setOf 64 = .ok (.getfield 7, 3) := by decide +kernel
theorem dX11_setOf_67 : decode cX11_setOf 67 = .ok (.iconst 1, 1) := by decide +kernel
theorem dX11_setOf_68 : decode cX11_setOf 68 = .ok (.iaload, 1) := by decide +kernel
theorem dX11_setOf_69 : decode cX11_setOf 69 = .ok (.if_icmp .ge 61, 3) := by decide +kernel
theorem dX11_setOf_72 : decode cX11_setOf 72 = .ok (.iload_n 1, 1) := by decide +kernel
theorem dX11_setOf_73 : decode cX11_setOf 73 = .ok (.iconst 1, 1) := by decide +kernel
theorem dX11_setOf_74 : decode cX11_setOf 74 = .ok (.if_icmp .le 56, 3) := by decide +kernel
theorem dX11_setOf_77 : decode cX11_setOf 77 = .ok (.iload_n 2, 1) := by decide +kernel
theorem dX11_setOf_78 : decode cX11_setOf 78 = .ok (.iload_n 1, 1) := by decide +kernel
theorem dX11_setOf_79 : decode cX11_setOf 79 = .ok (.iconst 2, 1) := by decide +kernel
theorem dX11_setOf_80 : decode cX11_setOf 80 = .ok (.if_icmp .ne 14, 3) := by decide +kernel
theorem dX11_setOf_83 : decode cX11_setOf 83 = .ok (.aload_n 0, 1) := by decide +kernel
theorem dX11_setOf_84 : decode cX11_setOf 84 = .ok (.iload_n 3, 1) := by decide +kernel
theorem dX11_setOf_85 : decode cX11_setOf 85 = .ok (.invokevirtual 289, 3) := by decide +kernel
theorem dX11_setOf_88 : decode cX11_setOf 88 = .ok (.ifCond .eq 33, 3) := by decide +kernel
theorem dX11_setOf_91 : decode cX11_setOf 91 = .ok (.goto 24, 3) := by decide +kernel
theorem dX11_setOf_94 : decode cX11_setOf 94 = .ok (.aload_n 0, 1) := by decide +kernel
theorem dX11_setOf_95 : decode cX11_setOf 95 = .ok (.iload_n 3, 1) := by decide +kernel
theorem dX11_setOf_96 : decode cX11_setOf 96 = .ok (.iload_n 1, 1) := by decide +kernel
theorem dX11_setOf_97 : decode cX11_setOf 97 = .ok (.iconst 3, 1) := by decide +kernel
theorem dX11_setOf_98 : decode cX11_setOf 98 = .ok (.if_icmp .ne 8, 3) := by decide +kernel
theorem dX11_setOf_101 : decode cX11_setOf 101 = .ok (.bipush 6, 2) := by decide +kernel
theorem dX11_setOf_103 : decode cX11_setOf 103 = .ok (.goto 5, 3) := by decide +kernel
theorem dX11_setOf_106 : decode cX11_setOf 106 = .ok (.bipush 7, 2) := by decide +kernel
theorem dX11_setOf_108 : decode cX11_setOf 108 = .ok (.invokevirtual 272, 3) := by decide +kernel
theorem dX11_setOf_111 : decode cX11_setOf 111 = .ok (.iconst 1, 1) := by decide +kernel
theorem dX11_setOf_112 : decode cX11_setOf 112 = .ok (.if_icmp .ne 9, 3) := by decide +kernel
theorem dX11_setOf_115 : decode cX11_setOf 115 = .ok (.iconst 1, 1) := by decide +kernel
theorem dX11_setOf_116 : decode cX11_setOf 116 = .ok (.iload_n 3, 1) := by decide +kernel
theorem dX11_setOf_117 : decode cX11_setOf 117 = .ok (.ishl, 1) := by decide +kernel
theorem dX11_setOf_118 : decode cX11_setOf 118 = .ok (.goto 4, 3) := by decide +kernel
theorem dX11_setOf_121 : decode cX11_setOf 121 = .ok (.iconst 0, 1) := by decide +kernel
theorem dX11_setOf_122 : decode cX11_setOf 122 = .ok (.ior, 1) := by decide +kernel
theorem dX11_setOf_123 : decode cX11_setOf 123 = .ok (.istore_n 2, 1) := by decide +kernel
theorem dX11_setOf_124 : decode cX11_setOf 124 = .ok (.iinc 3 1, 3) := by decide +kernel
theorem dX11_setOf_127 : decode cX11_setOf 127 = .ok (.goto (-65), 3) := by decide +kernel
theorem dX11_setOf_130 : decode cX11_setOf 130 = .ok (.iload_n 2, 1) := by decide +kernel
theorem dX11_setOf_131 : decode cX11_setOf 131 = .ok (.ireturn, 1) := by decide +kernel
theorem dX11_told_0 : decode cX11_told 0 = .ok (.iload_n 1, 1) := by decide +kernel
theorem dX11_told_1 : decode cX11_told 1 = .ok (.ifCond .lt 9, 3) := by decide +kernel
theorem dX11_told_4 : decode cX11_told 4 = .ok (.iload_n 1, 1) := by decide +kernel
theorem dX11_told_5 : decode cX11_told 5 = .ok (.bipush 9, 2) := by decide +kernel
theorem dX11_told_7 : decode cX11_told 7 = .ok (.if_icmp .le 9, 3) := by decide +kernel
theorem dX11_told_10 : decode cX11_told 10 = .ok (.aload_n 0, 1) := by decide +kernel
theorem dX11_told_11 : decode cX11_told 11 = .ok (.iconst 1, 1) := by decide +kernel
theorem dX11_told_12 : decode cX11_told 12 = .ok (.invokevirtual 90, 3) := by decide +kernel
theorem dX11_told_15 : decode cX11_told 15 = .ok (.ireturn, 1) := by decide +kernel
theorem dX11_told_16 : decode cX11_told 16 = .ok (.aload_n 0, 1) := by decide +kernel
theorem dX11_told_17 : decode cX11_told 17 = .ok (.iload_n 1, 1) := by decide +kernel
theorem dX11_told_18 : decode cX11_told 18 = .ok (.iconst 4, 1) := by decide +kernel
theorem dX11_told_19 : decode cX11_told 19 = .ok (.if_icmp .ge 12, 3) := by decide +kernel
theorem dX11_told_22 : decode cX11_told 22 = .ok (.aload_n 0, 1) := by decide +kernel
theorem dX11_told_23 : decode cX11_told 23 = .ok (.getfield 7, 3) := by decide +kernel
theorem dX11_told_26 : decode cX11_told 26 = .ok (.iload_n 1, 1) := by decide +kernel
theorem dX11_told_27 : decode cX11_told 27 = .ok (.iaload, 1) := by decide +kernel
theorem dX11_told_28 : decode cX11_told 28 = .ok (.goto 22, 3) := by decide +kernel
theorem dX11_told_31 : decode cX11_told 31 = .ok (.iload_n 1, 1) := by decide +kernel
theorem dX11_told_32 : decode cX11_told 32 = .ok (.iconst 4, 1) := by decide +kernel
theorem dX11_told_33 : decode cX11_told 33 = .ok (.if_icmp .ne 10, 3) := by decide +kernel
theorem dX11_told_36 : decode cX11_told 36 = .ok (.aload_n 0, 1) := by decide +kernel
theorem dX11_told_37 : decode cX11_told 37 = .ok (.invokevirtual 296, 3) := by decide +kernel
theorem dX11_told_40 : decode cX11_told 40 = .ok (.goto 10, 3) := by decide +kernel
theorem dX11_told_43 : decode cX11_told 43 = .ok (.aload_n 0, 1) := by decide +kernel
theorem dX11_told_44 : decode cX11_told 44 = .ok (.iload_n 1, 1) := by decide +kernel
theorem dX11_told_45 : decode cX11_told 45 = .ok (.iconst 5, 1) := by decide +kernel
theorem dX11_told_46 : decode cX11_told 46 = .ok (.isub, 1) := by decide +kernel
theorem dX11_told_47 : decode cX11_told 47 = .ok (.invokevirtual 299, 3) := by decide +kernel
theorem dX11_told_50 : decode cX11_told 50 = .ok (.invokevirtual 94, 3) := by decide +kernel
theorem dX11_told_53 : decode cX11_told 53 = .ok (.ireturn, 1) := by decide +kernel
theorem dX11_room_0 : decode cX11_room 0 = .ok (.aload_n 0, 1) := by decide +kernel
theorem dX11_room_1 : decode cX11_room 1 = .ok (.iload_n 1, 1) := by decide +kernel
theorem dX11_room_2 : decode cX11_room 2 = .ok (.invokevirtual 302, 3) := by decide +kernel
theorem dX11_room_5 : decode cX11_room 5 = .ok (.ifCond .eq 13, 3) := by decide +kernel
theorem dX11_room_8 : decode cX11_room 8 = .ok (.iload_n 2, 1) := by decide +kernel
theorem dX11_room_9 : decode cX11_room 9 = .ok (.ifCond .lt 9, 3) := by decide +kernel
theorem dX11_room_12 : decode cX11_room 12 = .ok (.iload_n 2, 1) := by decide +kernel
theorem dX11_room_13 : decode cX11_room 13 = .ok (.bipush 7, 2) := by decide +kernel
theorem dX11_room_15 : decode cX11_room 15 = .ok (.if_icmp .le 9, 3) := by decide +kernel
theorem dX11_room_18 : decode cX11_room 18 = .ok (.aload_n 0, 1) := by decide +kernel
theorem dX11_room_19 : decode cX11_room 19 = .ok (.iconst 1, 1) := by decide +kernel
theorem dX11_room_20 : decode cX11_room 20 = .ok (.invokevirtual 90, 3) := by decide +kernel
theorem dX11_room_23 : decode cX11_room 23 = .ok (.ireturn, 1) := by decide +kernel
theorem dX11_room_24 : decode cX11_room 24 = .ok (.aload_n 0, 1) := by decide +kernel
theorem dX11_room_25 : decode cX11_room 25 = .ok (.iload_n 2, 1) := by decide +kernel
theorem dX11_room_26 : decode cX11_room 26 = .ok (.iconst 5, 1) := by decide +kernel
theorem dX11_room_27 : decode cX11_room 27 = .ok (.if_icmp .ge 12, 3) := by decide +kernel
theorem dX11_room_30 : decode cX11_room 30 = .ok (.aload_n 0, 1) := by decide +kernel
theorem dX11_room_31 : decode cX11_room 31 = .ok (.iload_n 1, 1) := by decide +kernel
theorem dX11_room_32 : decode cX11_room 32 = .ok (.iload_n 2, 1) := by decide +kernel
theorem dX11_room_33 : decode cX11_room 33 = .ok (.invokevirtual 263, 3) := by decide +kernel
theorem dX11_room_36 : decode cX11_room 36 = .ok (.goto 37, 3) := by decide +kernel
theorem dX11_room_39 : decode cX11_room 39 = .ok (.iload_n 2, 1) := by decide +kernel
theorem dX11_room_40 : decode cX11_room 40 = .ok (.iconst 5, 1) := by decide +kernel
theorem dX11_room_41 : decode cX11_room 41 = .ok (.if_icmp .ne 11, 3) := by decide +kernel
theorem dX11_room_44 : decode cX11_room 44 = .ok (.aload_n 0, 1) := by decide +kernel
theorem dX11_room_45 : decode cX11_room 45 = .ok (.iload_n 1, 1) := by decide +kernel
theorem dX11_room_46 : decode cX11_room 46 = .ok (.invokevirtual 269, 3) := by decide +kernel
theorem dX11_room_49 : decode cX11_room 49 = .ok (.goto 24, 3) := by decide +kernel
theorem dX11_room_52 : decode cX11_room 52 = .ok (.iload_n 2, 1) := by decide +kernel
theorem dX11_room_53 : decode cX11_room 53 = .ok (.bipush 6, 2) := by decide +kernel
theorem dX11_room_55 : decode cX11_room 55 = .ok (.if_icmp .ne 11, 3) := by decide +kernel
theorem dX11_room_58 : decode cX11_room 58 = .ok (.aload_n 0, 1) := by decide +kernel
theorem dX11_room_59 : decode cX11_room 59 = .ok (.iload_n 1, 1) := by decide +kernel
theorem dX11_room_60 : decode cX11_room 60 = .ok (.invokevirtual 278, 3) := by decide +kernel
theorem dX11_room_63 : decode cX11_room 63 = .ok (.goto 10, 3) := by decide +kernel
theorem dX11_room_66 : decode cX11_room 66 = .ok (.aload_n 0, 1) := by decide +kernel
theorem dX11_room_67 : decode cX11_room 67 = .ok (.iload_n 1, 1) := by decide +kernel
theorem dX11_room_68 : decode cX11_room 68 = .ok (.bipush 6, 2) := by decide +kernel
theorem dX11_room_70 : decode cX11_room 70 = .ok (.invokevirtual 263, 3) := by decide +kernel
theorem dX11_room_73 : decode cX11_room 73 = .ok (.invokevirtual 94, 3) := by decide +kernel
theorem dX11_room_76 : decode cX11_room 76 = .ok (.ireturn, 1) := by decide +kernel
theorem dX11_door_0 : decode cX11_door 0 = .ok (.aload_n 0, 1) := by decide +kernel
theorem dX11_door_1 : decode cX11_door 1 = .ok (.iload_n 1, 1) := by decide +kernel
theorem dX11_door_2 : decode cX11_door 2 = .ok (.invokevirtual 305, 3) := by decide +kernel
theorem dX11_door_5 : decode cX11_door 5 = .ok (.ifCond .eq 25, 3) := by decide +kernel
theorem dX11_door_8 : decode cX11_door 8 = .ok (.iload_n 2, 1) := by decide +kernel
theorem dX11_door_9 : decode cX11_door 9 = .ok (.ifCond .lt 21, 3) := by decide +kernel
theorem dX11_door_12 : decode cX11_door 12 = .ok (.iload_n 2, 1) := by decide +kernel
theorem dX11_door_13 : decode cX11_door 13 = .ok (.iconst 5, 1) := by decide +kernel
theorem dX11_door_14 : decode cX11_door 14 = .ok (.if_icmp .gt 16, 3) := by decide +kernel
theorem dX11_door_17 : decode cX11_door 17 = .ok (.aload_n 0, 1) := by decide +kernel
theorem dX11_door_18 : decode cX11_door 18 = .ok (.aload_n 0, 1) := by decide +kernel
theorem dX11_door_19 : decode cX11_door 19 = .ok (.iload_n 1, 1) := by decide +kernel
theorem dX11_door_20 : decode cX11_door 20 = .ok (.iload_n 2, 1) := by decide +kernel
theorem dX11_door_21 : decode cX11_door 21 = .ok (.invokevirtual 272, 3) := by decide +kernel
theorem dX11_door_24 : decode cX11_door 24 = .ok (.invokevirtual 94, 3) := by decide +kernel
theorem dX11_door_27 : decode cX11_door 27 = .ok (.goto 8, 3) := by decide +kernel
theorem dX11_door_30 : decode cX11_door 30 = .ok (.aload_n 0, 1) := by decide +kernel
theorem dX11_door_31 : decode cX11_door 31 = .ok (.iconst 1, 1) := by decide +kernel
theorem dX11_door_32 : decode cX11_door 32 = .ok (.invokevirtual 90, 3) := by decide +kernel
theorem dX11_door_35 : decode cX11_door 35 = .ok (.ireturn, 1) := by decide +kernel
theorem dX11_isErrand_0 : decode cX11_isErrand 0 = .ok (.iload_n 1, 1) := by decide +kernel
theorem dX11_isErrand_1 : decode cX11_isErrand 1 = .ok (.ifCond .lt 17, 3) := by decide +kernel
theorem dX11_isErrand_4 : decode cX11_isErrand 4 = .ok (.iload_n 1, 1) := by decide +kernel
theorem dX11_isErrand_5 : decode cX11_isErrand 5 = .ok (.aload_n 0, 1) := by decide +kernel
theorem dX11_isErrand_6 : decode cX11_isErrand 6 = .ok (.getfield 7, 3) := by decide +kernel
theorem dX11_isErrand_9 : decode cX11_isErrand 9 = .ok (.iconst 2, 1) := by decide +kernel
theorem dX11_isErrand_10 : decode cX11_isErrand 10 = .ok (.iaload, 1) := by decide +kernel
theorem dX11_isErrand_11 : decode cX11_isErrand 11 = .ok (.if_icmp .ge 7, 3) := by decide +kernel
theorem dX11_isErrand_14 : decode cX11_isErrand 14 = .ok (.iconst 1, 1) := by decide +kernel
theorem dX11_isErrand_15 : decode cX11_isErrand 15 = .ok (.goto 4, 3) := by decide +kernel
theorem dX11_isErrand_18 : decode cX11_isErrand 18 = .ok (.iconst 0, 1) := by decide +kernel
theorem dX11_isErrand_19 : decode cX11_isErrand 19 = .ok (.ireturn, 1) := by decide +kernel
theorem dX11_errand_0 : decode cX11_errand 0 = .ok (.aload_n 0, 1) := by decide +kernel
theorem dX11_errand_1 : decode cX11_errand 1 = .ok (.iload_n 1, 1) := by decide +kernel
theorem dX11_errand_2 : decode cX11_errand 2 = .ok (.invokevirtual 308, 3) := by decide +kernel
theorem dX11_errand_5 : decode cX11_errand 5 = .ok (.ifCond .eq 33, 3) := by decide +kernel
theorem dX11_errand_8 : decode cX11_errand 8 = .ok (.iload_n 2, 1) := by decide +kernel
theorem dX11_errand_9 : decode cX11_errand 9 = .ok (.ifCond .lt 29, 3) := by decide +kernel
theorem dX11_errand_12 : decode cX11_errand 12 = .ok (.iload_n 2, 1) := by decide +kernel
theorem dX11_errand_13 : decode cX11_errand 13 = .ok (.iconst 2, 1) := by decide +kernel
theorem dX11_errand_14 : decode cX11_errand 14 = .ok (.if_icmp .gt 24, 3) := by decide +kernel
theorem dX11_errand_17 : decode cX11_errand 17 = .ok (.aload_n 0, 1) := by decide +kernel
theorem dX11_errand_18 : decode cX11_errand 18 = .ok (.aload_n 0, 1) := by decide +kernel
theorem dX11_errand_19 : decode cX11_errand 19 = .ok (.getfield 7, 3) := by decide +kernel
theorem dX11_errand_22 : decode cX11_errand 22 = .ok (.sipush 147, 3) := by decide +kernel
theorem dX11_errand_25 : decode cX11_errand 25 = .ok (.iconst 3, 1) := by decide +kernel
theorem dX11_errand_26 : decode cX11_errand 26 = .ok (.iload_n 1, 1) := by decide +kernel
theorem dX11_errand_27 : decode cX11_errand 27 = .ok (.imul, 1) := by decide +kernel
theorem dX11_errand_28 : decode cX11_errand 28 = .ok (.iadd, 1) := by decide +kernel
theorem dX11_errand_29 : decode cX11_errand 29 = .ok (.iload_n 2, 1) := by decide +kernel
theorem dX11_errand_30 : decode cX11_errand 30 = .ok (.iadd, 1) := by decide +kernel
theorem dX11_errand_31 : decode cX11_errand 31 = .ok (.iaload, 1) := by decide +kernel
theorem dX11_errand_32 : decode cX11_errand 32 = .ok (.invokevirtual 94, 3) := by decide +kernel
theorem dX11_errand_35 : decode cX11_errand 35 = .ok (.goto 8, 3) := by decide +kernel
theorem dX11_errand_38 : decode cX11_errand 38 = .ok (.aload_n 0, 1) := by decide +kernel
theorem dX11_errand_39 : decode cX11_errand 39 = .ok (.iconst 1, 1) := by decide +kernel
theorem dX11_errand_40 : decode cX11_errand 40 = .ok (.invokevirtual 90, 3) := by decide +kernel
theorem dX11_errand_43 : decode cX11_errand 43 = .ok (.ireturn, 1) := by decide +kernel
theorem dX11_tide_0 : decode cX11_tide 0 = .ok (.iload_n 1, 1) := by decide +kernel
theorem dX11_tide_1 : decode cX11_tide 1 = .ok (.invokestatic 311, 3) := by decide +kernel
theorem dX11_tide_4 : decode cX11_tide 4 = .ok (.ifCond .eq 20, 3) := by decide +kernel
theorem dX11_tide_7 : decode cX11_tide 7 = .ok (.aload_n 0, 1) := by decide +kernel
theorem dX11_tide_8 : decode cX11_tide 8 = .ok (.aload_n 0, 1) := by decide +kernel
theorem dX11_tide_9 : decode cX11_tide 9 = .ok (.getfield 7, 3) := by decide +kernel
theorem dX11_tide_12 : decode cX11_tide 12 = .ok (.sipush 135, 3) := by decide +kernel
theorem dX11_tide_15 : decode cX11_tide 15 = .ok (.iload_n 1, 1) := by decide +kernel
theorem dX11_tide_16 : decode cX11_tide 16 = .ok (.iadd, 1) := by decide +kernel
theorem dX11_tide_17 : decode cX11_tide 17 = .ok (.iaload, 1) := by decide +kernel
theorem dX11_tide_18 : decode cX11_tide 18 = .ok (.invokevirtual 94, 3) := by decide +kernel
theorem dX11_tide_21 : decode cX11_tide 21 = .ok (.goto 8, 3) := by decide +kernel
theorem dX11_tide_24 : decode cX11_tide 24 = .ok (.aload_n 0, 1) := by decide +kernel
theorem dX11_tide_25 : decode cX11_tide 25 = .ok (.iconst 1, 1) := by decide +kernel
theorem dX11_tide_26 : decode cX11_tide 26 = .ok (.invokevirtual 90, 3) := by decide +kernel
theorem dX11_tide_29 : decode cX11_tide 29 = .ok (.ireturn, 1) := by decide +kernel
theorem dX11_drive_0 : decode cX11_drive 0 = .ok (.aload_n 0, 1) := by decide +kernel
theorem dX11_drive_1 : decode cX11_drive 1 = .ok (.iload_n 1, 1) := by decide +kernel
theorem dX11_drive_2 : decode cX11_drive 2 = .ok (.invokevirtual 305, 3) := by decide +kernel
theorem dX11_drive_5 : decode cX11_drive 5 = .ok (.ifCond .eq 15, 3) := by decide +kernel
theorem dX11_drive_8 : decode cX11_drive 8 = .ok (.aload_n 0, 1) := by decide +kernel
theorem dX11_drive_9 : decode cX11_drive 9 = .ok (.aload_n 0, 1) := by decide +kernel
theorem dX11_drive_10 : decode cX11_drive 10 = .ok (.iload_n 1, 1) := by decide +kernel
theorem dX11_drive_11 : decode cX11_drive 11 = .ok (.invokevirtual 286, 3) := by decide +kernel
theorem dX11_drive_14 : decode cX11_drive 14 = .ok (.invokevirtual 94, 3) := by decide +kernel
theorem dX11_drive_17 : decode cX11_drive 17 = .ok (.goto 8, 3) := by decide +kernel
theorem dX11_drive_20 : decode cX11_drive 20 = .ok (.aload_n 0, 1) := by decide +kernel
theorem dX11_drive_21 : decode cX11_drive 21 = .ok (.iconst 1, 1) := by decide +kernel
theorem dX11_drive_22 : decode cX11_drive 22 = .ok (.invokevirtual 90, 3) := by decide +kernel
theorem dX11_drive_25 : decode cX11_drive 25 = .ok (.ireturn, 1) := by decide +kernel
theorem dX11_flow_0 : decode cX11_flow 0 = .ok (.aload_n 0, 1) := by decide +kernel
theorem dX11_flow_1 : decode cX11_flow 1 = .ok (.iload_n 1, 1) := by decide +kernel
theorem dX11_flow_2 : decode cX11_flow 2 = .ok (.invokevirtual 305, 3) := by decide +kernel
theorem dX11_flow_5 : decode cX11_flow 5 = .ok (.ifCond .eq 15, 3) := by decide +kernel
theorem dX11_flow_8 : decode cX11_flow 8 = .ok (.aload_n 0, 1) := by decide +kernel
theorem dX11_flow_9 : decode cX11_flow 9 = .ok (.aload_n 0, 1) := by decide +kernel
theorem dX11_flow_10 : decode cX11_flow 10 = .ok (.iload_n 1, 1) := by decide +kernel
theorem dX11_flow_11 : decode cX11_flow 11 = .ok (.invokevirtual 314, 3) := by decide +kernel
theorem dX11_flow_14 : decode cX11_flow 14 = .ok (.invokevirtual 94, 3) := by decide +kernel
theorem dX11_flow_17 : decode cX11_flow 17 = .ok (.goto 8, 3) := by decide +kernel
theorem dX11_flow_20 : decode cX11_flow 20 = .ok (.aload_n 0, 1) := by decide +kernel
theorem dX11_flow_21 : decode cX11_flow 21 = .ok (.iconst 1, 1) := by decide +kernel
theorem dX11_flow_22 : decode cX11_flow 22 = .ok (.invokevirtual 90, 3) := by decide +kernel
theorem dX11_flow_25 : decode cX11_flow 25 = .ok (.ireturn, 1) := by decide +kernel
theorem dX11_flowOpen_0 : decode cX11_flowOpen 0 = .ok (.aload_n 0, 1) := by decide +kernel
theorem dX11_flowOpen_1 : decode cX11_flowOpen 1 = .ok (.iload_n 1, 1) := by decide +kernel
theorem dX11_flowOpen_2 : decode cX11_flowOpen 2 = .ok (.invokevirtual 305, 3) := by decide +kernel
theorem dX11_flowOpen_5 : decode cX11_flowOpen 5 = .ok (.ifCond .eq 16, 3) := by decide +kernel
theorem dX11_flowOpen_8 : decode cX11_flowOpen 8 = .ok (.aload_n 0, 1) := by decide +kernel
theorem dX11_flowOpen_9 : decode cX11_flowOpen 9 = .ok (.aload_n 0, 1) := by decide +kernel
theorem dX11_flowOpen_10 : decode cX11_flowOpen 10 = .ok (.iload_n 1, 1) := by decide +kernel
theorem dX11_flowOpen_11 : decode cX11_flowOpen 11 = .ok (.iconst 1, 1) := by decide +kernel
theorem dX11_flowOpen_12 : decode cX11_flowOpen 12 = .ok (.invokevirtual 292, 3) := by decide +kernel
theorem dX11_flowOpen_15 : decode cX11_flowOpen 15 = .ok (.invokevirtual 94, 3) := by decide +kernel
theorem dX11_flowOpen_18 : decode cX11_flowOpen 18 = .ok (.goto 8, 3) := by decide +kernel
theorem dX11_flowOpen_21 : decode cX11_flowOpen 21 = .ok (.aload_n 0, 1) := by decide +kernel
theorem dX11_flowOpen_22 : decode cX11_flowOpen 22 = .ok (.iconst 1, 1) := by decide +kernel
theorem dX11_flowOpen_23 : decode cX11_flowOpen 23 = .ok (.invokevirtual 90, 3) := by decide +kernel
theorem dX11_flowOpen_26 : decode cX11_flowOpen 26 = .ok (.ireturn, 1) := by decide +kernel
theorem dX11_deepest_0 : decode cX11_deepest 0 = .ok (.iconst (-1), 1) := by decide +kernel
theorem dX11_deepest_1 : decode cX11_deepest 1 = .ok (.istore_n 1, 1) := by decide +kernel
theorem dX11_deepest_2 : decode cX11_deepest 2 = .ok (.iconst 0, 1) := by decide +kernel
theorem dX11_deepest_3 : decode cX11_deepest 3 = .ok (.istore_n 2, 1) := by decide +kernel
theorem dX11_deepest_4 : decode cX11_deepest 4 = .ok (.iload_n 2, 1) := by decide +kernel
theorem dX11_deepest_5 : decode cX11_deepest 5 = .ok (.aload_n 0, 1) := by decide +kernel
theorem dX11_deepest_6 : decode cX11_deepest 6 = .ok (.getfield 7, 3) := by decide +kernel
theorem dX11_deepest_9 : decode cX11_deepest 9 = .ok (.iconst 0, 1) := by decide +kernel
theorem dX11_deepest_10 : decode cX11_deepest 10 = .ok (.iaload, 1) := by decide +kernel
theorem dX11_deepest_11 : decode cX11_deepest 11 = .ok (.if_icmp .ge 33, 3) := by decide +kernel
theorem dX11_deepest_14 : decode cX11_deepest 14 = .ok (.aload_n 0, 1) := by decide +kernel
theorem dX11_deepest_15 : decode cX11_deepest 15 = .ok (.iload_n 2, 1) := by decide +kernel
theorem dX11_deepest_16 : decode cX11_deepest 16 = .ok (.invokevirtual 269, 3) := by decide +kernel
theorem dX11_deepest_19 : decode cX11_deepest 19 = .ok (.iload_n 1, 1) := by decide +kernel
theorem dX11_deepest_20 : decode cX11_deepest 20 = .ok (.iconst (-1), 1) := by decide +kernel
theorem dX11_deepest_21 : decode cX11_deepest 21 = .ok (.if_icmp .ne 7, 3) := by decide +kernel
theorem dX11_deepest_24 : decode cX11_deepest 24 = .ok (.iconst 0, 1) := by decide +kernel
theorem dX11_deepest_25 : decode cX11_deepest 25 = .ok (.goto 8, 3) := by decide +kernel
theorem dX11_deepest_28 : decode cX11_deepest 28 = .ok (.aload_n 0, 1) := by decide +kernel
theorem dX11_deepest_29 : decode cX11_deepest 29 = .ok (.iload_n 1, 1) := by decide +kernel
theorem dX11_deepest_30 : decode cX11_deepest 30 = .ok (.invokevirtual 269, 3) := by decide +kernel
theorem dX11_deepest_33 : decode cX11_deepest 33 = .ok (.if_icmp .le 5, 3) := by decide +kernel
theorem dX11_deepest_36 : decode cX11_deepest 36 = .ok (.iload_n 2, 1) := by decide +kernel
theorem dX11_deepest_37 : decode cX11_deepest 37 = .ok (.istore_n 1, 1) := by decide +kernel
theorem dX11_deepest_38 : decode cX11_deepest 38 = .ok (.iinc 2 1, 3) := by decide +kernel
theorem dX11_deepest_41 : decode cX11_deepest 41 = .ok (.goto (-37), 3) := by decide +kernel
theorem dX11_deepest_44 : decode cX11_deepest 44 = .ok (.aload_n 0, 1) := by decide +kernel
theorem dX11_deepest_45 : decode cX11_deepest 45 = .ok (.iload_n 1, 1) := by decide +kernel
theorem dX11_deepest_46 : decode cX11_deepest 46 = .ok (.invokevirtual 317, 3) := by decide +kernel
theorem dX11_deepest_49 : decode cX11_deepest 49 = .ok (.ireturn, 1) := by decide +kernel
theorem dX11_busiest_0 : decode cX11_busiest 0 = .ok (.iconst (-1), 1) := by decide +kernel
theorem dX11_busiest_1 : decode cX11_busiest 1 = .ok (.istore_n 1, 1) := by decide +kernel
theorem dX11_busiest_2 : decode cX11_busiest 2 = .ok (.iconst 0, 1) := by decide +kernel
theorem dX11_busiest_3 : decode cX11_busiest 3 = .ok (.istore_n 2, 1) := by decide +kernel
theorem dX11_busiest_4 : decode cX11_busiest 4 = .ok (.iload_n 2, 1) := by decide +kernel
theorem dX11_busiest_5 : decode cX11_busiest 5 = .ok (.aload_n 0, 1) := by decide +kernel
theorem dX11_busiest_6 : decode cX11_busiest 6 = .ok (.getfield 7, 3) := by decide +kernel
theorem dX11_busiest_9 : decode cX11_busiest 9 = .ok (.iconst 1, 1) := by decide +kernel
theorem dX11_busiest_10 : decode cX11_busiest 10 = .ok (.iaload, 1) := by decide +kernel
theorem dX11_busiest_11 : decode cX11_busiest 11 = .ok (.if_icmp .ge 39, 3) := by decide +kernel
theorem dX11_busiest_14 : decode cX11_busiest 14 = .ok (.aload_n 0, 1) := by decide +kernel
theorem dX11_busiest_15 : decode cX11_busiest 15 = .ok (.iload_n 2, 1) := by decide +kernel
theorem dX11_busiest_16 : decode cX11_busiest 16 = .ok (.invokevirtual 314, 3) := by decide +kernel
theorem dX11_busiest_19 : decode cX11_busiest 19 = .ok (.invokestatic 284, 3) := by decide +kernel
theorem dX11_busiest_22 : decode cX11_busiest 22 = .ok (.iload_n 1, 1) := by decide +kernel
theorem dX11_busiest_23 : decode cX11_busiest 23 = .ok (.iconst (-1), 1) := by decide +kernel
theorem dX11_busiest_24 : decode cX11_busiest 24 = .ok (.if_icmp .ne 7, 3) := by decide +kernel
theorem dX11_busiest_27 : decode cX11_busiest 27 = .ok (.iconst 0, 1) := by decide +kernel
theorem dX11_busiest_28 : decode cX11_busiest 28 = .ok (.goto 11, 3) := by decide +kernel
theorem dX11_busiest_31 : decode cX11_busiest 31 = .ok (.aload_n 0, 1) := by decide +kernel
theorem dX11_busiest_32 : decode cX11_busiest 32 = .ok (.iload_n 1, 1) := by decide +kernel
theorem dX11_busiest_33 : decode cX11_busiest 33 = .ok (.invokevirtual 314, 3) := by decide +kernel
theorem dX11_busiest_36 : decode cX11_busiest 36 = .ok (.invokestatic 284, 3) := by decide +kernel
theorem dX11_busiest_39 : decode cX11_busiest 39 = .ok (.if_icmp .le 5, 3) := by decide +kernel
theorem dX11_busiest_42 : decode cX11_busiest 42 = .ok (.iload_n 2, 1) := by decide +kernel
theorem dX11_busiest_43 : decode cX11_busiest 43 = .ok (.istore_n 1, 1) := by decide +kernel
theorem dX11_busiest_44 : decode cX11_busiest 44 = .ok (.iinc 2 1, 3) := by decide +kernel
theorem dX11_busiest_47 : decode cX11_busiest 47 = .ok (.goto (-43), 3) := by decide +kernel
theorem dX11_busiest_50 : decode cX11_busiest 50 = .ok (.aload_n 0, 1) := by decide +kernel
theorem dX11_busiest_51 : decode cX11_busiest 51 = .ok (.iload_n 1, 1) := by decide +kernel
theorem dX11_busiest_52 : decode cX11_busiest 52 = .ok (.invokevirtual 317, 3) := by decide +kernel
theorem dX11_busiest_55 : decode cX11_busiest 55 = .ok (.ireturn, 1) := by decide +kernel
theorem dX11_spare_0 : decode cX11_spare 0 = .ok (.aload_n 0, 1) := by decide +kernel
theorem dX11_spare_1 : decode cX11_spare 1 = .ok (.iload_n 1, 1) := by decide +kernel
theorem dX11_spare_2 : decode cX11_spare 2 = .ok (.invokevirtual 302, 3) := by decide +kernel
theorem dX11_spare_5 : decode cX11_spare 5 = .ok (.ifCond .eq 38, 3) := by decide +kernel
theorem dX11_spare_8 : decode cX11_spare 8 = .ok (.aload_n 0, 1) := by decide +kernel
theorem dX11_spare_9 : decode cX11_spare 9 = .ok (.iconst 0, 1) := by decide +kernel
theorem dX11_spare_10 : decode cX11_spare 10 = .ok (.aload_n 0, 1) := by decide +kernel
theorem dX11_spare_11 : decode cX11_spare 11 = .ok (.iload_n 1, 1) := by decide +kernel
theorem dX11_spare_12 : decode cX11_spare 12 = .ok (.iconst 2, 1) := by decide +kernel
theorem dX11_spare_13 : decode cX11_spare 13 = .ok (.invokevirtual 263, 3) := by decide +kernel
theorem dX11_spare_16 : decode cX11_spare 16 = .ok (.iconst 1, 1) := by decide +kernel
theorem dX11_spare_17 : decode cX11_spare 17 = .ok (.iadd, 1) := by decide +kernel
theorem dX11_spare_18 : decode cX11_spare 18 = .ok (.aload_n 0, 1) := by decide +kernel
theorem dX11_spare_19 : decode cX11_spare 19 = .ok (.iload_n 1, 1) := by decide +kernel
theorem dX11_spare_20 : decode cX11_spare 20 = .ok (.iconst 1, 1) := by decide +kernel
theorem dX11_spare_21 : decode cX11_spare 21 = .ok (.invokevirtual 263, 3) := by decide +kernel
theorem dX11_spare_24 : decode cX11_spare 24 = .ok (.imul, 1) := by decide +kernel
theorem dX11_spare_25 : decode cX11_spare 25 = .ok (.iconst 1, 1) := by decide +kernel
theorem dX11_spare_26 : decode cX11_spare 26 = .ok (.isub, 1) := by decide +kernel
theorem dX11_spare_27 : decode cX11_spare 27 = .ok (.aload_n 0, 1) := by decide +kernel
theorem dX11_spare_28 : decode cX11_spare 28 = .ok (.iload_n 1, 1) := by decide +kernel
theorem dX11_spare_29 : decode cX11_spare 29 = .ok (.iconst 4, 1) := by decide +kernel
theorem dX11_spare_30 : decode cX11_spare 30 = .ok (.invokevirtual 263, 3) := by decide +kernel
theorem dX11_spare_33 : decode cX11_spare 33 = .ok (.isub, 1) := by decide +kernel
theorem dX11_spare_34 : decode cX11_spare 34 = .ok (.invokestatic 281, 3) := by decide +kernel
theorem dX11_spare_37 : decode cX11_spare 37 = .ok (.invokevirtual 94, 3) := by decide +kernel
theorem dX11_spare_40 : decode cX11_spare 40 = .ok (.goto 8, 3) := by decide +kernel
theorem dX11_spare_43 : decode cX11_spare 43 = .ok (.aload_n 0, 1) := by decide +kernel
theorem dX11_spare_44 : decode cX11_spare 44 = .ok (.iconst 1, 1) := by decide +kernel
theorem dX11_spare_45 : decode cX11_spare 45 = .ok (.invokevirtual 90, 3) := by decide +kernel
theorem dX11_spare_48 : decode cX11_spare 48 = .ok (.ireturn, 1) := by decide +kernel
theorem dX11_low_0 : decode cX11_low 0 = .ok (.iconst 0, 1) := by decide +kernel
theorem dX11_low_1 : decode cX11_low 1 = .ok (.istore_n 1, 1) := by decide +kernel
theorem dX11_low_2 : decode cX11_low 2 = .ok (.iconst 1, 1) := by decide +kernel
theorem dX11_low_3 : decode cX11_low 3 = .ok (.istore_n 2, 1) := by decide +kernel
theorem dX11_low_4 : decode cX11_low 4 = .ok (.iload_n 2, 1) := by decide +kernel
theorem dX11_low_5 : decode cX11_low 5 = .ok (.bipush 12, 2) := by decide +kernel
theorem dX11_low_7 : decode cX11_low 7 = .ok (.if_icmp .ge 34, 3) := by decide +kernel
theorem dX11_low_10 : decode cX11_low 10 = .ok (.aload_n 0, 1) := by decide +kernel
theorem dX11_low_11 : decode cX11_low 11 = .ok (.getfield 7, 3) := by decide +kernel
theorem dX11_low_14 : decode cX11_low 14 = .ok (.sipush 135, 3) := by decide +kernel
theorem dX11_low_17 : decode cX11_low 17 = .ok (.iload_n 2, 1) := by decide +kernel
theorem dX11_low_18 : decode cX11_low 18 = .ok (.iadd, 1) := by decide +kernel
theorem dX11_low_19 : decode cX11_low 19 = .ok (.iaload, 1) := by decide +kernel
theorem dX11_low_20 : decode cX11_low 20 = .ok (.aload_n 0, 1) := by decide +kernel
theorem dX11_low_21 : decode cX11_low 21 = .ok (.getfield 7, 3) := by decide +kernel
theorem dX11_low_24 : decode cX11_low 24 = .ok (.sipush 135, 3) := by decide +kernel
theorem dX11_low_27 : decode cX11_low 27 = .ok (.iload_n 1, 1) := by decide +kernel
theorem dX11_low_28 : decode cX11_low 28 = .ok (.iadd, 1) := by decide +kernel
theorem dX11_low_29 : decode cX11_low 29 = .ok (.iaload, 1) := by decide +kernel
theorem dX11_low_30 : decode cX11_low 30 = .ok (.if_icmp .ge 5, 3) := by decide +kernel
theorem dX11_low_33 : decode cX11_low 33 = .ok (.iload_n 2, 1) := by decide +kernel
theorem dX11_low_34 : decode cX11_low 34 = .ok (.istore_n 1, 1) := by decide +kernel
theorem dX11_low_35 : decode cX11_low 35 = .ok (.iinc 2 1, 3) := by decide +kernel
theorem dX11_low_38 : decode cX11_low 38 = .ok (.goto (-34), 3) := by decide +kernel
theorem dX11_low_41 : decode cX11_low 41 = .ok (.aload_n 0, 1) := by decide +kernel
theorem dX11_low_42 : decode cX11_low 42 = .ok (.iload_n 1, 1) := by decide +kernel
theorem dX11_low_43 : decode cX11_low 43 = .ok (.invokevirtual 94, 3) := by decide +kernel
theorem dX11_low_46 : decode cX11_low 46 = .ok (.ireturn, 1) := by decide +kernel
theorem dX11_high_0 : decode cX11_high 0 = .ok (.aload_n 0, 1) := by decide +kernel
theorem dX11_high_1 : decode cX11_high 1 = .ok (.iload_n 1, 1) := by decide +kernel
theorem dX11_high_2 : decode cX11_high 2 = .ok (.invokevirtual 305, 3) := by decide +kernel
theorem dX11_high_5 : decode cX11_high 5 = .ok (.ifCond .ne 9, 3) := by decide +kernel
theorem dX11_high_8 : decode cX11_high 8 = .ok (.aload_n 0, 1) := by decide +kernel
theorem dX11_high_9 : decode cX11_high 9 = .ok (.iconst 1, 1) := by decide +kernel
theorem dX11_high_10 : decode cX11_high 10 = .ok (.invokevirtual 90, 3) := by decide +kernel
theorem dX11_high_13 : decode cX11_high 13 = .ok (.ireturn, 1) := by decide +kernel
theorem dX11_high_14 : decode cX11_high 14 = .ok (.iconst 0, 1) := by decide +kernel
theorem dX11_high_15 : decode cX11_high 15 = .ok (.istore_n 2, 1) := by decide +kernel
theorem dX11_high_16 : decode cX11_high 16 = .ok (.iconst 0, 1) := by decide +kernel
theorem dX11_high_17 : decode cX11_high 17 = .ok (.istore_n 3, 1) := by decide +kernel
theorem dX11_high_18 : decode cX11_high 18 = .ok (.iload_n 3, 1) := by decide +kernel
theorem dX11_high_19 : decode cX11_high 19 = .ok (.bipush 12, 2) := by decide +kernel
theorem dX11_high_21 : decode cX11_high 21 = .ok (.if_icmp .ge 38, 3) := by decide +kernel
theorem dX11_high_24 : decode cX11_high 24 = .ok (.iload_n 2, 1) := by decide +kernel
theorem dX11_high_25 : decode cX11_high 25 = .ok (.aload_n 0, 1) := by decide +kernel
theorem dX11_high_26 : decode cX11_high 26 = .ok (.getfield 7, 3) := by decide +kernel
theorem dX11_high_29 : decode cX11_high 29 = .ok (.sipush 135, 3) := by decide +kernel
theorem dX11_high_32 : decode cX11_high 32 = .ok (.iload_n 3, 1) := by decide +kernel
theorem dX11_high_33 : decode cX11_high 33 = .ok (.iadd, 1) := by decide +kernel
theorem dX11_high_34 : decode cX11_high 34 = .ok (.iaload, 1) := by decide +kernel
theorem dX11_high_35 : decode cX11_high 35 = .ok (.aload_n 0, 1) := by decide +kernel
theorem dX11_high_36 : decode cX11_high 36 = .ok (.iload_n 1, 1) := by decide +kernel
theorem dX11_high_37 : decode cX11_high 37 = .ok (.iconst 2, 1) := by decide +kernel
theorem dX11_high_38 : decode cX11_high 38 = .ok (.invokevirtual 272, 3) := by decide +kernel
theorem dX11_high_41 : decode cX11_high 41 = .ok (.if_icmp .le 9, 3) := by decide +kernel
theorem dX11_high_44 : decode cX11_high 44 = .ok (.iconst 1, 1) := by decide +kernel
theorem dX11_high_45 : decode cX11_high 45 = .ok (.iload_n 3, 1) := by decide +kernel
theorem dX11_high_46 : decode cX11_high 46 = .ok (.ishl, 1) := by decide +kernel
theorem dX11_high_47 : decode cX11_high 47 = .ok (.goto 4, 3) := by decide +kernel
theorem dX11_high_50 : decode cX11_high 50 = .ok (.iconst 0, 1) := by decide +kernel
theorem dX11_high_51 : decode cX11_high 51 = .ok (.ior, 1) := by decide +kernel
theorem dX11_high_52 : decode cX11_high 52 = .ok (.istore_n 2, 1) := by decide +kernel
theorem dX11_high_53 : decode cX11_high 53 = .ok (.iinc 3 1, 3) := by decide +kernel
theorem dX11_high_56 : decode cX11_high 56 = .ok (.goto (-38), 3) := by decide +kernel
theorem dX11_high_59 : decode cX11_high 59 = .ok (.aload_n 0, 1) := by decide +kernel
theorem dX11_high_60 : decode cX11_high 60 = .ok (.iload_n 2, 1) := by decide +kernel
theorem dX11_high_61 : decode cX11_high 61 = .ok (.invokevirtual 94, 3) := by decide +kernel
theorem dX11_high_64 : decode cX11_high 64 = .ok (.ireturn, 1) := by decide +kernel
theorem dX11_linkedFrom_0 : decode cX11_linkedFrom 0 = .ok (.iload_n 1, 1) := by decide +kernel
theorem dX11_linkedFrom_1 : decode cX11_linkedFrom 1 = .ok (.istore 4, 2) := by decide +kernel
theorem dX11_linkedFrom_3 : decode cX11_linkedFrom 3 = .ok (.iconst 0, 1) := by decide +kernel
theorem dX11_linkedFrom_4 : decode cX11_linkedFrom 4 = .ok (.istore 5, 2) := by decide +kernel
theorem dX11_linkedFrom_6 : decode cX11_linkedFrom 6 = .ok (.iload 5, 2) := by decide +kernel
theorem dX11_linkedFrom_8 : decode cX11_linkedFrom 8 = .ok (.bipush 7, 2) := by decide +kernel
theorem dX11_linkedFrom_10 : decode cX11_linkedFrom 10 = .ok (.if_icmp .gt 146, 3) := by decide +kernel
theorem dX11_linkedFrom_13 : decode cX11_linkedFrom 13 = .ok (.iconst 0, 1) := by decide +kernel
theorem dX11_linkedFrom_14 : decode cX11_linkedFrom 14 = .ok (.istore 6, 2) := by decide +kernel
theorem dX11_linkedFrom_16 : decode cX11_linkedFrom 16 = .ok (.iload 6, 2) := by decide +kernel
theorem dX11_linkedFrom_18 : decode cX11_linkedFrom 18 = .ok (.aload_n 0, 1) := by decide +kernel
theorem dX11_linkedFrom_19 : decode cX11_linkedFrom 19 = .ok (.getfield 7, 3) := by decide +kernel
theorem dX11_linkedFrom_22 : decode cX11_linkedFrom 22 = .ok (.iconst 1, 1) := by decide +kernel
theorem dX11_linkedFrom_23 : decode cX11_linkedFrom 23 = .ok (.iaload, 1) := by decide +kernel
theorem dX11_linkedFrom_24 : decode cX11_linkedFrom 24 = .ok (.if_icmp .ge 126, 3) := by decide +kernel
theorem dX11_linkedFrom_27 : decode cX11_linkedFrom 27 = .ok (.aload_n 0, 1) := by decide +kernel
theorem dX11_linkedFrom_28 : decode cX11_linkedFrom 28 = .ok (.iload 6, 2) := by decide +kernel
theorem dX11_linkedFrom_30 : decode cX11_linkedFrom 30 = .ok (.iconst 0, 1) := by decide +kernel
theorem dX11_linkedFrom_31 : decode cX11_linkedFrom 31 = .ok (.invokevirtual 272, 3) := by decide +kernel
theorem dX11_linkedFrom_34 : decode cX11_linkedFrom 34 = .ok (.iconst (-1), 1) := by decide +kernel
theorem dX11_linkedFrom_35 : decode cX11_linkedFrom 35 = .ok (.if_icmp .ne 8, 3) := by decide +kernel
theorem dX11_linkedFrom_38 : decode cX11_linkedFrom 38 = .ok (.bipush 7, 2) := by decide +kernel
theorem dX11_linkedFrom_40 : decode cX11_linkedFrom 40 = .ok (.goto 10, 3) := by decide +kernel
theorem dX11_linkedFrom_43 : decode cX11_linkedFrom 43 = .ok (.aload_n 0, 1) := by decide +kernel
theorem dX11_linkedFrom_44 : decode cX11_linkedFrom 44 = .ok (.iload 6, 2) := by decide +kernel
theorem dX11_linkedFrom_46 : decode cX11_linkedFrom 46 = .ok (.iconst 0, 1) := by decide +kernel
theorem dX11_linkedFrom_47 : decode cX11_linkedFrom 47 = .ok (.invokevirtual 272, 3) := by decide +kernel
theorem dX11_linkedFrom_50 : decode cX11_linkedFrom 50 = .ok (.istore 7, 2) := by decide +kernel
theorem dX11_linkedFrom_52 : decode cX11_linkedFrom 52 = .ok (.aload_n 0, 1) := by decide +kernel
theorem dX11_linkedFrom_53 : decode cX11_linkedFrom 53 = .ok (.iload 6, 2) := by decide +kernel
theorem dX11_linkedFrom_55 : decode cX11_linkedFrom 55 = .ok (.iconst 1, 1) := by decide +kernel
theorem dX11_linkedFrom_56 : decode cX11_linkedFrom 56 = .ok (.invokevirtual 272, 3) := by decide +kernel
theorem dX11_linkedFrom_59 : decode cX11_linkedFrom 59 = .ok (.iconst (-1), 1) := by decide +kernel
theorem dX11_linkedFrom_60 : decode cX11_linkedFrom 60 = .ok (.if_icmp .ne 8, 3) := by decide +kernel
theorem dX11_linkedFrom_63 : decode cX11_linkedFrom 63 = .ok (.bipush 7, 2) := by decide +kernel
theorem dX11_linkedFrom_65 : decode cX11_linkedFrom 65 = .ok (.goto 10, 3) := by decide +kernel
theorem dX11_linkedFrom_68 : decode cX11_linkedFrom 68 = .ok (.aload_n 0, 1) := by decide +kernel
theorem dX11_linkedFrom_69 : decode cX11_linkedFrom 69 = .ok (.iload 6, 2) := by decide +kernel
theorem dX11_linkedFrom_71 : decode cX11_linkedFrom 71 = .ok (.iconst 1, 1) := by decide +kernel
theorem dX11_linkedFrom_72 : decode cX11_linkedFrom 72 = .ok (.invokevirtual 272, 3) := by decide +kernel
theorem dX11_linkedFrom_75 : decode cX11_linkedFrom 75 = .ok (.istore 8, 2) := by decide +kernel
theorem dX11_linkedFrom_77 : decode cX11_linkedFrom 77 = .ok (.aload_n 0, 1) := by decide +kernel
theorem dX11_linkedFrom_78 : decode cX11_linkedFrom 78 = .ok (.iload_n 2, 1) := by decide +kernel
theorem dX11_linkedFrom_79 : decode cX11_linkedFrom 79 = .ok (.iload 6, 2) := by decide +kernel
theorem dX11_linkedFrom_81 : decode cX11_linkedFrom 81 = .ok (.invokevirtual 275, 3) := by decide +kernel
theorem dX11_linkedFrom_84 : decode cX11_linkedFrom 84 = .ok (.ifCond .ne 60, 3) := by decide +kernel
theorem dX11_linkedFrom_87 : decode cX11_linkedFrom 87 = .ok (.iload_n 3, 1) := by decide +kernel
theorem dX11_linkedFrom_88 : decode cX11_linkedFrom 88 = .ok (.ifCond .ne 20, 3) := by decide +kernel
theorem dX11_linkedFrom_91 : decode cX11_linkedFrom 91 = .ok (.iload 7, 2) := by decide +kernel
theorem dX11_linkedFrom_93 : decode cX11_linkedFrom 93 = .ok (.bipush 7, 2) := by decide +kernel
theorem dX11_linkedFrom_95 : decode cX11_linkedFrom 95 = .ok (.if_icmp .eq 49, 3) := by decide +kernel
theorem dX11_linkedFrom_98 : decode cX11_linkedFrom 98 = .ok (.iload 8, 2) := by decide +kernel
theorem dX11_linkedFrom_100 : decode cX11_linkedFrom 100 = .ok (.bipush 7, 2) := by decide +kernel
theorem dX11_linkedFrom_102 : decode cX11_linkedFrom 102 = .ok (.if_icmp .ne 6, 3) := by decide +kernel
theorem dX11_linkedFrom_105 : decode cX11_linkedFrom 105 = .ok (.goto 39, 3) := by decide +kernel
theorem dX11_linkedFrom_108 : decode cX11_linkedFrom 108 = .ok (.aload_n 0, 1) := by decide +kernel
theorem dX11_linkedFrom_109 : decode cX11_linkedFrom 109 = .ok (.iload 4, 2) := by decide +kernel
theorem dX11_linkedFrom_111 : decode cX11_linkedFrom 111 = .ok (.iload 7, 2) := by decide +kernel
theorem dX11_linkedFrom_113 : decode cX11_linkedFrom 113 = .ok (.invokevirtual 275, 3) := by decide +kernel
theorem dX11_linkedFrom_116 : decode cX11_linkedFrom 116 = .ok (.ifCond .ne 14, 3) := by decide +kernel
theorem dX11_linkedFrom_119 : decode cX11_linkedFrom 119 = .ok (.aload_n 0, 1) := by decide +kernel
theorem dX11_linkedFrom_120 : decode cX11_linkedFrom 120 = .ok (.iload 4, 2) := by decide +kernel
theorem dX11_linkedFrom_122 : decode cX11_linkedFrom 122 = .ok (.iload 8, 2) := by decide +kernel
theorem dX11_linkedFrom_124 : decode cX11_linkedFrom 124 = .ok (.invokevirtual 275, 3) := by decide +kernel
theorem dX11_linkedFrom_127 : decode cX11_linkedFrom 127 = .ok (.ifCond .eq 17, 3) := by decide +kernel
theorem dX11_linkedFrom_130 : decode cX11_linkedFrom 130 = .ok (.iload 4, 2) := by decide +kernel
theorem dX11_linkedFrom_132 : decode cX11_linkedFrom 132 = .ok (.iconst 1, 1) := by decide +kernel
theorem dX11_linkedFrom_133 : decode cX11_linkedFrom 133 = .ok (.iload 7, 2) := by decide +kernel
theorem dX11_linkedFrom_135 : decode cX11_linkedFrom 135 = .ok (.ishl, 1) := by decide +kernel
theorem dX11_linkedFrom_136 : decode cX11_linkedFrom 136 = .ok (.iconst 1, 1) := by decide +kernel
theorem dX11_linkedFrom_137 : decode cX11_linkedFrom 137 = .ok (.iload 8, 2) := by decide +kernel
theorem dX11_linkedFrom_139 : decode cX11_linkedFrom 139 = .ok (.ishl, 1) := by decide +kernel
theorem dX11_linkedFrom_140 : decode cX11_linkedFrom 140 = .ok (.ior, 1) := by decide +kernel
theorem dX11_linkedFrom_141 : decode cX11_linkedFrom 141 = .ok (.ior, 1) := by decide +kernel
theorem dX11_linkedFrom_142 : decode cX11_linkedFrom 142 = .ok (.istore 4, 2) := by decide +kernel
theorem dX11_linkedFrom_144 : decode cX11_linkedFrom 144 = .ok (.iinc 6 1, 3) := by decide +kernel
theorem dX11_linkedFrom_147 : decode cX11_linkedFrom 147 = .ok (.goto (-131), 3) := by decide +kernel
theorem dX11_linkedFrom_150 : decode cX11_linkedFrom 150 = .ok (.iinc 5 1, 3) := by decide +kernel
theorem dX11_linkedFrom_153 : decode cX11_linkedFrom 153 = .ok (.goto (-147), 3) := by decide +kernel
theorem dX11_linkedFrom_156 : decode cX11_linkedFrom 156 = .ok (.iload 4, 2) := by decide +kernel
theorem dX11_linkedFrom_158 : decode cX11_linkedFrom 158 = .ok (.ireturn, 1) := by decide +kernel
theorem dX11_linked_0 : decode cX11_linked 0 = .ok (.aload_n 0, 1) := by decide +kernel
theorem dX11_linked_1 : decode cX11_linked 1 = .ok (.iload_n 1, 1) := by decide +kernel
theorem dX11_linked_2 : decode cX11_linked 2 = .ok (.invokevirtual 302, 3) := by decide +kernel
theorem dX11_linked_5 : decode cX11_linked 5 = .ok (.ifCond .eq 23, 3) := by decide +kernel
theorem dX11_linked_8 : decode cX11_linked 8 = .ok (.aload_n 0, 1) := by decide +kernel
theorem dX11_linked_9 : decode cX11_linked 9 = .ok (.aload_n 0, 1) := by decide +kernel
theorem dX11_linked_10 : decode cX11_linked 10 = .ok (.iconst 1, 1) := by decide +kernel
theorem dX11_linked_11 : decode cX11_linked 11 = .ok (.iload_n 1, 1) := by decide +kernel
theorem dX11_linked_12 : decode cX11_linked 12 = .ok (.ishl, 1) := by decide +kernel
theorem dX11_linked_13 : decode cX11_linked 13 = .ok (.aload_n 0, 1) := by decide +kernel
theorem dX11_linked_14 : decode cX11_linked 14 = .ok (.iconst 4, 1) := by decide +kernel
theorem dX11_linked_15 : decode cX11_linked 15 = .ok (.invokevirtual 299, 3) := by decide +kernel
theorem dX11_linked_18 : decode cX11_linked 18 = .ok (.iconst 0, 1) := by decide +kernel
theorem dX11_linked_19 : decode cX11_linked 19 = .ok (.invokevirtual 320, 3) := by decide +kernel
theorem dX11_linked_22 : decode cX11_linked 22 = .ok (.invokevirtual 94, 3) := by decide +kernel
theorem dX11_linked_25 : decode cX11_linked 25 = .ok (.goto 8, 3) := by decide +kernel
theorem dX11_linked_28 : decode cX11_linked 28 = .ok (.aload_n 0, 1) := by decide +kernel
theorem dX11_linked_29 : decode cX11_linked 29 = .ok (.iconst 1, 1) := by decide +kernel
theorem dX11_linked_30 : decode cX11_linked 30 = .ok (.invokevirtual 90, 3) := by decide +kernel
theorem dX11_linked_33 : decode cX11_linked 33 = .ok (.ireturn, 1) := by decide +kernel
theorem dX11_pours_0 : decode cX11_pours 0 = .ok (.iload_n 1, 1) := by decide +kernel
theorem dX11_pours_1 : decode cX11_pours 1 = .ok (.iconst (-1), 1) := by decide +kernel
theorem dX11_pours_2 : decode cX11_pours 2 = .ok (.if_icmp .eq 28, 3) := by decide +kernel
theorem dX11_pours_5 : decode cX11_pours 5 = .ok (.aload_n 0, 1) := by decide +kernel
theorem dX11_pours_6 : decode cX11_pours 6 = .ok (.getfield 7, 3) := by decide +kernel
theorem dX11_pours_9 : decode cX11_pours 9 = .ok (.iload_n 1, 1) := by decide +kernel
theorem dX11_pours_10 : decode cX11_pours 10 = .ok (.invokestatic 257, 3) := by decide +kernel
theorem dX11_pours_13 : decode cX11_pours 13 = .ok (.iconst 4, 1) := by decide +kernel
theorem dX11_pours_14 : decode cX11_pours 14 = .ok (.iadd, 1) := by decide +kernel
theorem dX11_pours_15 : decode cX11_pours 15 = .ok (.sipush 9999, 3) := by decide +kernel
theorem dX11_pours_18 : decode cX11_pours 18 = .ok (.aload_n 0, 1) := by decide +kernel
theorem dX11_pours_19 : decode cX11_pours 19 = .ok (.iload_n 1, 1) := by decide +kernel
theorem dX11_pours_20 : decode cX11_pours 20 = .ok (.iconst 4, 1) := by decide +kernel
theorem dX11_pours_21 : decode cX11_pours 21 = .ok (.invokevirtual 263, 3) := by decide +kernel
theorem dX11_pours_24 : decode cX11_pours 24 = .ok (.iload_n 2, 1) := by decide +kernel
theorem dX11_pours_25 : decode cX11_pours 25 = .ok (.iadd, 1) := by decide +kernel
theorem dX11_pours_26 : decode cX11_pours 26 = .ok (.invokestatic 151, 3) := by decide +kernel
theorem dX11_pours_29 : decode cX11_pours 29 = .ok (.iastore, 1) := by decide +kernel
theorem dX11_pours_30 : decode cX11_pours 30 = .ok (.return_, 1) := by decide +kernel
theorem dX11_goesBy_0 : decode cX11_goesBy 0 = .ok (.aload_n 0, 1) := by decide +kernel
theorem dX11_goesBy_1 : decode cX11_goesBy 1 = .ok (.iconst 1, 1) := by decide +kernel
theorem dX11_goesBy_2 : decode cX11_goesBy 2 = .ok (.invokevirtual 299, 3) := by decide +kernel
theorem dX11_goesBy_5 : decode cX11_goesBy 5 = .ok (.istore_n 1, 1) := by decide +kernel
theorem dX11_goesBy_6 : decode cX11_goesBy 6 = .ok (.iconst 0, 1) := by decide +kernel
theorem dX11_goesBy_7 : decode cX11_goesBy 7 = .ok (.istore_n 2, 1) := by decide +kernel
theorem dX11_goesBy_8 : decode cX11_goesBy 8 = .ok (.iload_n 2, 1) := by decide +kernel
theorem dX11_goesBy_9 : decode cX11_goesBy 9 = .ok (.aload_n 0, 1) := by decide +kernel
theorem dX11_goesBy_10 : decode cX11_goesBy 10 = .ok (.getfield 7, 3) := by decide +kernel
theorem dX11_goesBy_13 : decode cX11_goesBy 13 = .ok (.iconst 1, 1) := by decide +kernel
theorem dX11_goesBy_14 : decode cX11_goesBy 14 = .ok (.iaload, 1) := by decide +kernel
theorem dX11_goesBy_15 : decode cX11_goesBy 15 = .ok (.if_icmp .ge 20, 3) := by decide +kernel
theorem dX11_goesBy_18 : decode cX11_goesBy 18 = .ok (.aload_n 0, 1) := by decide +kernel
theorem dX11_goesBy_19 : decode cX11_goesBy 19 = .ok (.getfield 53, 3) := by decide +kernel
theorem dX11_goesBy_22 : decode cX11_goesBy 22 = .ok (.iload_n 2, 1) := by decide +kernel
theorem dX11_goesBy_23 : decode cX11_goesBy 23 = .ok (.aload_n 0, 1) := by decide +kernel
theorem dX11_goesBy_24 : decode cX11_goesBy 24 = .ok (.iload_n 2, 1) := by decide +kernel
theorem dX11_goesBy_25 : decode cX11_goesBy 25 = .ok (.invokevirtual 314, 3) := by decide +kernel
theorem dX11_goesBy_28 : decode cX11_goesBy 28 = .ok (.iastore, 1) := by decide +kernel
theorem dX11_goesBy_29 : decode cX11_goesBy 29 = .ok (.iinc 2 1, 3) := by decide +kernel
theorem dX11_goesBy_32 : decode cX11_goesBy 32 = .ok (.goto (-24), 3) := by decide +kernel
theorem dX11_goesBy_35 : decode cX11_goesBy 35 = .ok (.iconst 0, 1) := by decide +kernel
theorem dX11_goesBy_36 : decode cX11_goesBy 36 = .ok (.istore_n 2, 1) := by decide +kernel
theorem dX11_goesBy_37 : decode cX11_goesBy 37 = .ok (.iload_n 2, 1) := by decide +kernel
theorem dX11_goesBy_38 : decode cX11_goesBy 38 = .ok (.aload_n 0, 1) := by decide +kernel
theorem dX11_goesBy_39 : decode cX11_goesBy 39 = .ok (.getfield 7, 3) := by decide +kernel
theorem dX11_goesBy_42 : decode cX11_goesBy 42 = .ok (.iconst 1, 1) := by decide +kernel
theorem dX11_goesBy_43 : decode cX11_goesBy 43 = .ok (.iaload, 1) := by decide +kernel
theorem dX11_goesBy_44 : decode cX11_goesBy 44 = .ok (.if_icmp .ge 106, 3) := by decide +kernel
theorem dX11_goesBy_47 : decode cX11_goesBy 47 = .ok (.aload_n 0, 1) := by decide +kernel
theorem dX11_goesBy_48 : decode cX11_goesBy 48 = .ok (.iload_n 2, 1) := by decide +kernel
theorem dX11_goesBy_49 : decode cX11_goesBy 49 = .ok (.aload_n 0, 1) := by decide +kernel
theorem dX11_goesBy_50 : decode cX11_goesBy 50 = .ok (.getfield 53, 3) := by decide +kernel
theorem dX11_goesBy_53 : decode cX11_goesBy 53 = .ok (.iload_n 2, 1) := by decide +kernel
theorem dX11_goesBy_54 : decode cX11_goesBy 54 = .ok (.iaload, 1) := by decide +kernel
theorem dX11_goesBy_55 : decode cX11_goesBy 55 = .ok (.ifCond .lt 7, 3) := by decide +kernel
theorem dX11_goesBy_58 : decode cX11_goesBy 58 = .ok (.iconst 0, 1) := by decide +kernel
theorem dX11_goesBy_59 : decode cX11_goesBy 59 = .ok (.goto 4, 3) := by decide +kernel
theorem dX11_goesBy_62 : decode cX11_goesBy 62 = .ok (.iconst 1, 1) := by decide +kernel
theorem dX11_goesBy_63 : decode cX11_goesBy 63 = .ok (.invokevirtual 272, 3) := by decide +kernel
theorem dX11_goesBy_66 : decode cX11_goesBy 66 = .ok (.istore_n 3, 1) := by decide +kernel
theorem dX11_goesBy_67 : decode cX11_goesBy 67 = .ok (.aload_n 0, 1) := by decide +kernel
theorem dX11_goesBy_68 : decode cX11_goesBy 68 = .ok (.iload_n 2, 1) := by decide +kernel
theorem dX11_goesBy_69 : decode cX11_goesBy 69 = .ok (.aload_n 0, 1) := by decide +kernel
theorem dX11_goesBy_70 : decode cX11_goesBy 70 = .ok (.getfield 53, 3) := by decide +kernel
theorem dX11_goesBy_73 : decode cX11_goesBy 73 = .ok (.iload_n 2, 1) := by decide +kernel
theorem dX11_goesBy_74 : decode cX11_goesBy 74 = .ok (.iaload, 1) := by decide +kernel
theorem dX11_goesBy_75 : decode cX11_goesBy 75 = .ok (.ifCond .lt 7, 3) := by decide +kernel
theorem dX11_goesBy_78 : decode cX11_goesBy 78 = .ok (.iconst 1, 1) := by decide +kernel
theorem dX11_goesBy_79 : decode cX11_goesBy 79 = .ok (.goto 4, 3) := by decide +kernel
theorem dX11_goesBy_82 : decode cX11_goesBy 82 = .ok (.iconst 0, 1) := by decide +kernel
theorem dX11_goesBy_83 : decode cX11_goesBy 83 = .ok (.invokevirtual 272, 3) := by decide +kernel
theorem dX11_goesBy_86 : decode cX11_goesBy 86 = .ok (.istore 4, 2) := by decide +kernel
theorem dX11_goesBy_88 : decode cX11_goesBy 88 = .ok (.aload_n 0, 1) := by decide +kernel
theorem dX11_goesBy_89 : decode cX11_goesBy 89 = .ok (.getfield 53, 3) := by decide +kernel
theorem dX11_goesBy_92 : decode cX11_goesBy 92 = .ok (.iload_n 2, 1) := by decide +kernel
theorem dX11_goesBy_93 : decode cX11_goesBy 93 = .ok (.iaload, 1) := by decide +kernel
theorem dX11_goesBy_94 : decode cX11_goesBy 94 = .ok (.invokestatic 284, 3) := by decide +kernel
theorem dX11_goesBy_97 : decode cX11_goesBy 97 = .ok (.istore 5, 2) := by decide +kernel
theorem dX11_goesBy_99 : decode cX11_goesBy 99 = .ok (.iload_n 3, 1) := by decide +kernel
theorem dX11_goesBy_100 : decode cX11_goesBy 100 = .ok (.iconst (-1), 1) := by decide +kernel
theorem dX11_goesBy_101 : decode cX11_goesBy 101 = .ok (.if_icmp .eq 16, 3) := by decide +kernel
theorem dX11_goesBy_104 : decode cX11_goesBy 104 = .ok (.iload 5, 2) := by decide +kernel
theorem dX11_goesBy_106 : decode cX11_goesBy 106 = .ok (.aload_n 0, 1) := by decide +kernel
theorem dX11_goesBy_107 : decode cX11_goesBy 107 = .ok (.iload_n 3, 1) := by decide +kernel
theorem dX11_goesBy_108 : decode cX11_goesBy 108 = .ok (.iconst 4, 1) := by decide +kernel
theorem dX11_goesBy_109 : decode cX11_goesBy 109 = .ok (.invokevirtual 263, 3) := by decide +kernel
theorem dX11_goesBy_112 : decode cX11_goesBy 112 = .ok (.invokestatic 151, 3) := by decide +kernel
theorem dX11_goesBy_115 : decode cX11_goesBy 115 = .ok (.istore 5, 2) := by decide +kernel
theorem dX11_goesBy_117 : decode cX11_goesBy 117 = .ok (.aload_n 0, 1) := by decide +kernel
theorem dX11_goesBy_118 : decode cX11_goesBy 118 = .ok (.iload_n 3, 1) := by decide +kernel
theorem dX11_goesBy_119 : decode cX11_goesBy 119 = .ok (.iload 5, 2) := by decide +kernel
theorem dX11_goesBy_121 : decode cX11_goesBy 121 = .ok (.ineg, 1) := by decide +kernel
theorem dX11_goesBy_122 : decode cX11_goesBy 122 = .ok (.invokevirtual 324, 3) := by decide +kernel
theorem dX11_goesBy_125 : decode cX11_goesBy 125 = .ok (.aload_n 0, 1) := by decide +kernel
theorem dX11_goesBy_126 : decode cX11_goesBy 126 = .ok (.iload 4, 2) := by decide +kernel
theorem dX11_goesBy_128 : decode cX11_goesBy 128 = .ok (.iload 5, 2) := by decide +kernel
theorem dX11_goesBy_130 : decode cX11_goesBy 130 = .ok (.invokevirtual 324, 3) := by decide +kernel
theorem dX11_goesBy_133 : decode cX11_goesBy 133 = .ok (.aload_n 0, 1) := by decide +kernel
theorem dX11_goesBy_134 : decode cX11_goesBy 134 = .ok (.getfield 56, 3) := by decide +kernel
theorem dX11_goesBy_137 : decode cX11_goesBy 137 = .ok (.iload_n 2, 1) := by decide +kernel
theorem dX11_goesBy_138 : decode cX11_goesBy 138 = .ok (.dup2, 1) := by decide +kernel
theorem dX11_goesBy_139 : decode cX11_goesBy 139 = .ok (.iaload, 1) := by decide +kernel
theorem dX11_goesBy_140 : decode cX11_goesBy 140 = .ok (.iload 5, 2) := by decide +kernel
theorem dX11_goesBy_142 : decode cX11_goesBy 142 = .ok (.iadd, 1) := by decide +kernel
theorem dX11_goesBy_143 : decode cX11_goesBy 143 = .ok (.iastore, 1) := by decide +kernel
theorem dX11_goesBy_144 : decode cX11_goesBy 144 = .ok (.iinc 2 1, 3) := by decide +kernel
theorem dX11_goesBy_147 : decode cX11_goesBy 147 = .ok (.goto (-110), 3) := by decide +kernel
theorem dX11_goesBy_150 : decode cX11_goesBy 150 = .ok (.iconst 0, 1) := by decide +kernel
theorem dX11_goesBy_151 : decode cX11_goesBy 151 = .ok (.istore_n 2, 1) := by decide +kernel
theorem dX11_goesBy_152 : decode cX11_goesBy 152 = .ok (.iload_n 2, 1) := by decide +kernel
theorem dX11_goesBy_153 : decode cX11_goesBy 153 = .ok (.aload_n 0, 1) := by decide +kernel
theorem dX11_goesBy_154 : decode cX11_goesBy 154 = .ok (.getfield 7, 3) := by decide +kernel
theorem dX11_goesBy_157 : decode cX11_goesBy 157 = .ok (.iconst 0, 1) := by decide +kernel
theorem dX11_goesBy_158 : decode cX11_goesBy 158 = .ok (.iaload, 1) := by decide +kernel
theorem dX11_goesBy_159 : decode cX11_goesBy 159 = .ok (.if_icmp .ge 102, 3) := by decide +kernel
theorem dX11_goesBy_162 : decode cX11_goesBy 162 = .ok (.iload_n 2, 1) := by decide +kernel
theorem dX11_goesBy_163 : decode cX11_goesBy 163 = .ok (.invokestatic 257, 3) := by decide +kernel
theorem dX11_goesBy_166 : decode cX11_goesBy 166 = .ok (.istore_n 3, 1) := by decide +kernel
theorem dX11_goesBy_167 : decode cX11_goesBy 167 = .ok (.aload_n 0, 1) := by decide +kernel
theorem dX11_goesBy_168 : decode cX11_goesBy 168 = .ok (.getfield 328, 3) := by decide +kernel
theorem dX11_goesBy_171 : decode cX11_goesBy 171 = .ok (.ifCond .ne 33, 3) := by decide +kernel
theorem dX11_goesBy_174 : decode cX11_goesBy 174 = .ok (.aload_n 0, 1) := by decide +kernel
theorem dX11_goesBy_175 : decode cX11_goesBy 175 = .ok (.getfield 7, 3) := by decide +kernel
theorem dX11_goesBy_178 : decode cX11_goesBy 178 = .ok (.iload_n 3, 1) := by decide +kernel
theorem dX11_goesBy_179 : decode cX11_goesBy 179 = .ok (.iconst 4, 1) := by decide +kernel
theorem dX11_goesBy_180 : decode cX11_goesBy 180 = .ok (.iadd, 1) := by decide +kernel
theorem dX11_goesBy_181 : decode cX11_goesBy 181 = .ok (.dup2, 1) := by decide +kernel
theorem dX11_goesBy_182 : decode cX11_goesBy 182 = .ok (.iaload, 1) := by decide +kernel
theorem dX11_goesBy_183 : decode cX11_goesBy 183 = .ok (.aload_n 0, 1) := by decide +kernel
theorem dX11_goesBy_184 : decode cX11_goesBy 184 = .ok (.getfield 7, 3) := by decide +kernel
theorem dX11_goesBy_187 : decode cX11_goesBy 187 = .ok (.iload_n 3, 1) := by decide +kernel
theorem dX11_goesBy_188 : decode cX11_goesBy 188 = .ok (.iconst 4, 1) := by decide +kernel
theorem dX11_goesBy_189 : decode cX11_goesBy 189 = .ok (.iadd, 1) := by decide +kernel
theorem dX11_goesBy_190 : decode cX11_goesBy 190 = .ok (.iaload, 1) := by decide +kernel
theorem dX11_goesBy_191 : decode cX11_goesBy 191 = .ok (.aload_n 0, 1) := by decide +kernel
theorem dX11_goesBy_192 : decode cX11_goesBy 192 = .ok (.getfield 7, 3) := by decide +kernel
theorem dX11_goesBy_195 : decode cX11_goesBy 195 = .ok (.iload_n 3, 1) := by decide +kernel
theorem dX11_goesBy_196 : decode cX11_goesBy 196 = .ok (.iconst 3, 1) := by decide +kernel
theorem dX11_goesBy_197 : decode cX11_goesBy 197 = .ok (.iadd, 1) := by decide +kernel
theorem dX11_goesBy_198 : decode cX11_goesBy 198 = .ok (.iaload, 1) := by decide +kernel
theorem dX11_goesBy_199 : decode cX11_goesBy 199 = .ok (.invokestatic 151, 3) := by decide +kernel
theorem dX11_goesBy_202 : decode cX11_goesBy 202 = .ok (.isub, 1) := by decide +kernel
theorem dX11_goesBy_203 : decode cX11_goesBy 203 = .ok (.iastore, 1) := by decide +kernel
theorem dX11_goesBy_204 : decode cX11_goesBy 204 = .ok (.aload_n 0, 1) := by decide +kernel
theorem dX11_goesBy_205 : decode cX11_goesBy 205 = .ok (.iload_n 2, 1) := by decide +kernel
theorem dX11_goesBy_206 : decode cX11_goesBy 206 = .ok (.invokevirtual 269, 3) := by decide +kernel
theorem dX11_goesBy_209 : decode cX11_goesBy 209 = .ok (.aload_n 0, 1) := by decide +kernel
theorem dX11_goesBy_210 : decode cX11_goesBy 210 = .ok (.getfield 7, 3) := by decide +kernel
theorem dX11_goesBy_213 : decode cX11_goesBy 213 = .ok (.iload_n 3, 1) := by decide +kernel
theorem dX11_goesBy_214 : decode cX11_goesBy 214 = .ok (.iconst 2, 1) := by decide +kernel
theorem dX11_goesBy_215 : decode cX11_goesBy 215 = .ok (.iadd, 1) := by decide +kernel
theorem dX11_goesBy_216 : decode cX11_goesBy 216 = .ok (.iaload, 1) := by decide +kernel
theorem dX11_goesBy_217 : decode cX11_goesBy 217 = .ok (.if_icmp .le 12, 3) := by decide +kernel
theorem dX11_goesBy_220 : decode cX11_goesBy 220 = .ok (.aload_n 0, 1) := by decide +kernel
theorem dX11_goesBy_221 : decode cX11_goesBy 221 = .ok (.getfield 7, 3) := by decide +kernel
theorem dX11_goesBy_224 : decode cX11_goesBy 224 = .ok (.iload_n 3, 1) := by decide +kernel
theorem dX11_goesBy_225 : decode cX11_goesBy 225 = .ok (.iconst 5, 1) := by decide +kernel
theorem dX11_goesBy_226 : decode cX11_goesBy 226 = .ok (.iadd, 1) := by decide +kernel
theorem dX11_goesBy_227 : decode cX11_goesBy 227 = .ok (.iconst 1, 1) := by decide +kernel
theorem dX11_goesBy_228 : decode cX11_goesBy 228 = .ok (.iastore, 1) := by decide +kernel
theorem dX11_goesBy_229 : decode cX11_goesBy 229 = .ok (.aload_n 0, 1) := by decide +kernel
theorem dX11_goesBy_230 : decode cX11_goesBy 230 = .ok (.getfield 7, 3) := by decide +kernel
theorem dX11_goesBy_233 : decode cX11_goesBy 233 = .ok (.iload_n 3, 1) := by decide +kernel
theorem dX11_goesBy_234 : decode cX11_goesBy 234 = .ok (.bipush 6, 2) := by decide +kernel
theorem dX11_goesBy_236 : decode cX11_goesBy 236 = .ok (.iadd, 1) := by decide +kernel
theorem dX11_goesBy_237 : decode cX11_goesBy 237 = .ok (.aload_n 0, 1) := by decide +kernel
theorem dX11_goesBy_238 : decode cX11_goesBy 238 = .ok (.getfield 7, 3) := by decide +kernel
theorem dX11_goesBy_241 : decode cX11_goesBy 241 = .ok (.iload_n 3, 1) := by decide +kernel
theorem dX11_goesBy_242 : decode cX11_goesBy 242 = .ok (.bipush 6, 2) := by decide +kernel
theorem dX11_goesBy_244 : decode cX11_goesBy 244 = .ok (.iadd, 1) := by decide +kernel
theorem dX11_goesBy_245 : decode cX11_goesBy 245 = .ok (.iaload, 1) := by decide +kernel
theorem dX11_goesBy_246 : decode cX11_goesBy 246 = .ok (.aload_n 0, 1) := by decide +kernel
theorem dX11_goesBy_247 : decode cX11_goesBy 247 = .ok (.iload_n 2, 1) := by decide +kernel
theorem dX11_goesBy_248 : decode cX11_goesBy 248 = .ok (.invokevirtual 269, 3) := by decide +kernel
theorem dX11_goesBy_251 : decode cX11_goesBy 251 = .ok (.invokestatic 281, 3) := by decide +kernel
theorem dX11_goesBy_254 : decode cX11_goesBy 254 = .ok (.iastore, 1) := by decide +kernel
theorem dX11_goesBy_255 : decode cX11_goesBy 255 = .ok (.iinc 2 1, 3) := by decide +kernel
theorem dX11_goesBy_258 : decode cX11_goesBy 258 = .ok (.goto (-106), 3) := by decide +kernel
theorem dX11_goesBy_261 : decode cX11_goesBy 261 = .ok (.aload_n 0, 1) := by decide +kernel
theorem dX11_goesBy_262 : decode cX11_goesBy 262 = .ok (.getfield 7, 3) := by decide +kernel
theorem dX11_goesBy_265 : decode cX11_goesBy 265 = .ok (.iconst 3, 1) := by decide +kernel
theorem dX11_goesBy_266 : decode cX11_goesBy 266 = .ok (.dup2, 1) := by decide +kernel
theorem dX11_goesBy_267 : decode cX11_goesBy 267 = .ok (.iaload, 1) := by decide +kernel
theorem dX11_goesBy_268 : decode cX11_goesBy 268 = .ok (.iconst 1, 1) := by decide +kernel
theorem dX11_goesBy_269 : decode cX11_goesBy 269 = .ok (.iadd, 1) := by decide +kernel
theorem dX11_goesBy_270 : decode cX11_goesBy 270 = .ok (.iastore, 1) := by decide +kernel
theorem dX11_goesBy_271 : decode cX11_goesBy 271 = .ok (.aload_n 0, 1) := by decide +kernel
theorem dX11_goesBy_272 : decode cX11_goesBy 272 = .ok (.iconst 1, 1) := by decide +kernel
theorem dX11_goesBy_273 : decode cX11_goesBy 273 = .ok (.invokevirtual 299, 3) := by decide +kernel
theorem dX11_goesBy_276 : decode cX11_goesBy 276 = .ok (.iload_n 1, 1) := by decide +kernel
theorem dX11_goesBy_277 : decode cX11_goesBy 277 = .ok (.iconst (-1), 1) := by decide +kernel
theorem dX11_goesBy_278 : decode cX11_goesBy 278 = .ok (.ixor, 1) := by decide +kernel
theorem dX11_goesBy_279 : decode cX11_goesBy 279 = .ok (.iand, 1) := by decide +kernel
theorem dX11_goesBy_280 : decode cX11_goesBy 280 = .ok (.ireturn, 1) := by decide +kernel
theorem dX11_goes_0 : decode cX11_goes 0 = .ok (.iconst 0, 1) := by decide +kernel
theorem dX11_goes_1 : decode cX11_goes 1 = .ok (.istore_n 2, 1) := by decide +kernel
theorem dX11_goes_2 : decode cX11_goes 2 = .ok (.iconst 0, 1) := by decide +kernel
theorem dX11_goes_3 : decode cX11_goes 3 = .ok (.istore_n 3, 1) := by decide +kernel
theorem dX11_goes_4 : decode cX11_goes 4 = .ok (.iload_n 3, 1) := by decide +kernel
theorem dX11_goes_5 : decode cX11_goes 5 = .ok (.iload_n 1, 1) := by decide +kernel
theorem dX11_goes_6 : decode cX11_goes 6 = .ok (.if_icmp .ge 16, 3) := by decide +kernel
theorem dX11_goes_9 : decode cX11_goes 9 = .ok (.iload_n 2, 1) := by decide +kernel
theorem dX11_goes_10 : decode cX11_goes 10 = .ok (.aload_n 0, 1) := by decide +kernel
theorem dX11_goes_11 : decode cX11_goes 11 = .ok (.invokevirtual 332, 3) := by decide +kernel
theorem dX11_goes_14 : decode cX11_goes 14 = .ok (.ior, 1) := by decide +kernel
theorem dX11_goes_15 : decode cX11_goes 15 = .ok (.istore_n 2, 1) := by decide +kernel
theorem dX11_goes_16 : decode cX11_goes 16 = .ok (.iinc 3 1, 3) := by decide +kernel
theorem dX11_goes_19 : decode cX11_goes 19 = .ok (.goto (-15), 3) := by decide +kernel
theorem dX11_goes_22 : decode cX11_goes 22 = .ok (.iload_n 2, 1) := by decide +kernel
theorem dX11_goes_23 : decode cX11_goes 23 = .ok (.ireturn, 1) := by decide +kernel
theorem dX11_hour_0 : decode cX11_hour 0 = .ok (.iload_n 1, 1) := by decide +kernel
theorem dX11_hour_1 : decode cX11_hour 1 = .ok (.i2l, 1) := by decide +kernel
theorem dX11_hour_2 : decode cX11_hour 2 = .ok (.lconst 1, 1) := by decide +kernel
theorem dX11_hour_3 : decode cX11_hour 3 = .ok (.ldc2_w 335, 3) := by decide +kernel
theorem dX11_hour_6 : decode cX11_hour 6 = .ok (.invokestatic 337, 3) := by decide +kernel
theorem dX11_hour_9 : decode cX11_hour 9 = .ok (.ifCond .ne 9, 3) := by decide +kernel
theorem dX11_hour_12 : decode cX11_hour 12 = .ok (.aload_n 0, 1) := by decide +kernel
theorem dX11_hour_13 : decode cX11_hour 13 = .ok (.iconst 1, 1) := by decide +kernel
theorem dX11_hour_14 : decode cX11_hour 14 = .ok (.invokevirtual 90, 3) := by decide +kernel
theorem dX11_hour_17 : decode cX11_hour 17 = .ok (.ireturn, 1) := by decide +kernel
theorem dX11_hour_18 : decode cX11_hour 18 = .ok (.aload_n 0, 1) := by decide +kernel
theorem dX11_hour_19 : decode cX11_hour 19 = .ok (.getfield 7, 3) := by decide +kernel
theorem dX11_hour_22 : decode cX11_hour 22 = .ok (.iconst 3, 1) := by decide +kernel
theorem dX11_hour_23 : decode cX11_hour 23 = .ok (.iaload, 1) := by decide +kernel
theorem dX11_hour_24 : decode cX11_hour 24 = .ok (.iload_n 1, 1) := by decide +kernel
theorem dX11_hour_25 : decode cX11_hour 25 = .ok (.iadd, 1) := by decide +kernel
theorem dX11_hour_26 : decode cX11_hour 26 = .ok (.sipush 9999, 3) := by decide +kernel
theorem dX11_hour_29 : decode cX11_hour 29 = .ok (.if_icmp .le 11, 3) := by decide +kernel
theorem dX11_hour_32 : decode cX11_hour 32 = .ok (.aload_n 0, 1) := by decide +kernel
theorem dX11_hour_33 : decode cX11_hour 33 = .ok (.iconst 4, 1) := by decide +kernel
theorem dX11_hour_34 : decode cX11_hour 34 = .ok (.invokevirtual 90, 3) := by decide +kernel
theorem dX11_hour_37 : decode cX11_hour 37 = .ok (.goto 12, 3) := by decide +kernel
theorem dX11_hour_40 : decode cX11_hour 40 = .ok (.aload_n 0, 1) := by decide +kernel
theorem dX11_hour_41 : decode cX11_hour 41 = .ok (.aload_n 0, 1) := by decide +kernel
theorem dX11_hour_42 : decode cX11_hour 42 = .ok (.iload_n 1, 1) := by decide +kernel
theorem dX11_hour_43 : decode cX11_hour 43 = .ok (.invokevirtual 341, 3) := by decide +kernel
theorem dX11_hour_46 : decode cX11_hour 46 = .ok (.invokevirtual 94, 3) := by decide +kernel
theorem dX11_hour_49 : decode cX11_hour 49 = .ok (.ireturn, 1) := by decide +kernel
theorem dX11_turns_0 : decode cX11_turns 0 = .ok (.aload_n 0, 1) := by decide +kernel
theorem dX11_turns_1 : decode cX11_turns 1 = .ok (.iload_n 1, 1) := by decide +kernel
theorem dX11_turns_2 : decode cX11_turns 2 = .ok (.iload_n 2, 1) := by decide +kernel
theorem dX11_turns_3 : decode cX11_turns 3 = .ok (.invokevirtual 272, 3) := by decide +kernel
theorem dX11_turns_6 : decode cX11_turns 6 = .ok (.iconst 1, 1) := by decide +kernel
theorem dX11_turns_7 : decode cX11_turns 7 = .ok (.if_icmp .ne 7, 3) := by decide +kernel
theorem dX11_turns_10 : decode cX11_turns 10 = .ok (.iconst 1, 1) := by decide +kernel
theorem dX11_turns_11 : decode cX11_turns 11 = .ok (.goto 4, 3) := by decide +kernel
theorem dX11_turns_14 : decode cX11_turns 14 = .ok (.iconst 0, 1) := by decide +kernel
theorem dX11_turns_15 : decode cX11_turns 15 = .ok (.iload_n 3, 1) := by decide +kernel
theorem dX11_turns_16 : decode cX11_turns 16 = .ok (.if_icmp .ne 5, 3) := by decide +kernel
theorem dX11_turns_19 : decode cX11_turns 19 = .ok (.iconst 0, 1) := by decide +kernel
theorem dX11_turns_20 : decode cX11_turns 20 = .ok (.ireturn, 1) := by decide +kernel
theorem dX11_turns_21 : decode cX11_turns 21 = .ok (.aload_n 0, 1) := by decide +kernel
theorem dX11_turns_22 : decode cX11_turns 22 = .ok (.getfield 7, 3) := by decide +kernel
theorem dX11_turns_25 : decode cX11_turns 25 = .ok (.iload_n 1, 1) := by decide +kernel
theorem dX11_turns_26 : decode cX11_turns 26 = .ok (.invokestatic 260, 3) := by decide +kernel
theorem dX11_turns_29 : decode cX11_turns 29 = .ok (.iload_n 2, 1) := by decide +kernel
theorem dX11_turns_30 : decode cX11_turns 30 = .ok (.iadd, 1) := by decide +kernel
theorem dX11_turns_31 : decode cX11_turns 31 = .ok (.iload_n 3, 1) := by decide +kernel
theorem dX11_turns_32 : decode cX11_turns 32 = .ok (.ifCond .eq 7, 3) := by decide +kernel
theorem dX11_turns_35 : decode cX11_turns 35 = .ok (.iconst 1, 1) := by decide +kernel
theorem dX11_turns_36 : decode cX11_turns 36 = .ok (.goto 4, 3) := by decide +kernel
theorem dX11_turns_39 : decode cX11_turns 39 = .ok (.iconst 0, 1) := by decide +kernel
theorem dX11_turns_40 : decode cX11_turns 40 = .ok (.iastore, 1) := by decide +kernel
theorem dX11_turns_41 : decode cX11_turns 41 = .ok (.iconst 1, 1) := by decide +kernel
theorem dX11_turns_42 : decode cX11_turns 42 = .ok (.ireturn, 1) := by decide +kernel
theorem dX11_hold_0 : decode cX11_hold 0 = .ok (.aload_n 0, 1) := by decide +kernel
theorem dX11_hold_1 : decode cX11_hold 1 = .ok (.aload_n 0, 1) := by decide +kernel
theorem dX11_hold_2 : decode cX11_hold 2 = .ok (.iload_n 1, 1) := by decide +kernel
theorem dX11_hold_3 : decode cX11_hold 3 = .ok (.invokevirtual 305, 3) := by decide +kernel
theorem dX11_hold_6 : decode cX11_hold 6 = .ok (.ifCond .ne 7, 3) := by decide +kernel
theorem dX11_hold_9 : decode cX11_hold 9 = .ok (.iconst 1, 1) := by decide +kernel
theorem dX11_hold_10 : decode cX11_hold 10 = .ok (.goto 20, 3) := by decide +kernel
theorem dX11_hold_13 : decode cX11_hold 13 = .ok (.aload_n 0, 1) := by decide +kernel
theorem dX11_hold_14 : decode cX11_hold 14 = .ok (.iload_n 1, 1) := by decide +kernel
theorem dX11_hold_15 : decode cX11_hold 15 = .ok (.bipush 6, 2) := by decide +kernel
theorem dX11_hold_17 : decode cX11_hold 17 = .ok (.iload_n 2, 1) := by decide +kernel
theorem dX11_hold_18 : decode cX11_hold 18 = .ok (.invokevirtual 344, 3) := by decide +kernel
theorem dX11_hold_21 : decode cX11_hold 21 = .ok (.ifCond .eq 7, 3) := by decide +kernel
theorem dX11_hold_24 : decode cX11_hold 24 = .ok (.iconst 0, 1) := by decide +kernel
theorem dX11_hold_25 : decode cX11_hold 25 = .ok (.goto 5, 3) := by decide +kernel
theorem dX11_hold_28 : decode cX11_hold 28 = .ok (.bipush 7, 2) := by decide +kernel
theorem dX11_hold_30 : decode cX11_hold 30 = .ok (.invokevirtual 103, 3) := by decide +kernel
theorem dX11_hold_33 : decode cX11_hold 33 = .ok (.ireturn, 1) := by decide +kernel
theorem dX11_wall_0 : decode cX11_wall 0 = .ok (.aload_n 0, 1) := by decide +kernel
theorem dX11_wall_1 : decode cX11_wall 1 = .ok (.aload_n 0, 1) := by decide +kernel
theorem dX11_wall_2 : decode cX11_wall 2 = .ok (.iload_n 1, 1) := by decide +kernel
theorem dX11_wall_3 : decode cX11_wall 3 = .ok (.invokevirtual 305, 3) := by decide +kernel
theorem dX11_wall_6 : decode cX11_wall 6 = .ok (.ifCond .ne 7, 3) := by decide +kernel
theorem dX11_wall_9 : decode cX11_wall 9 = .ok (.iconst 1, 1) := by decide +kernel
theorem dX11_wall_10 : decode cX11_wall 10 = .ok (.goto 20, 3) := by decide +kernel
theorem dX11_wall_13 : decode cX11_wall 13 = .ok (.aload_n 0, 1) := by decide +kernel
theorem dX11_wall_14 : decode cX11_wall 14 = .ok (.iload_n 1, 1) := by decide +kernel
theorem dX11_wall_15 : decode cX11_wall 15 = .ok (.bipush 7, 2) := by decide +kernel
theorem dX11_wall_17 : decode cX11_wall 17 = .ok (.iload_n 2, 1) := by decide +kernel
theorem dX11_wall_18 : decode cX11_wall 18 = .ok (.invokevirtual 344, 3) := by decide +kernel
theorem dX11_wall_21 : decode cX11_wall 21 = .ok (.ifCond .eq 7, 3) := by decide +kernel
theorem dX11_wall_24 : decode cX11_wall 24 = .ok (.iconst 0, 1) := by decide +kernel
theorem dX11_wall_25 : decode cX11_wall 25 = .ok (.goto 5, 3) := by decide +kernel
theorem dX11_wall_28 : decode cX11_wall 28 = .ok (.bipush 7, 2) := by decide +kernel
theorem dX11_wall_30 : decode cX11_wall 30 = .ok (.invokevirtual 103, 3) := by decide +kernel
theorem dX11_wall_33 : decode cX11_wall 33 = .ok (.ireturn, 1) := by decide +kernel
theorem dX11_bails_0 : decode cX11_bails 0 = .ok (.aload_n 0, 1) := by decide +kernel
theorem dX11_bails_1 : decode cX11_bails 1 = .ok (.iload_n 1, 1) := by decide +kernel
theorem dX11_bails_2 : decode cX11_bails 2 = .ok (.iconst 4, 1) := by decide +kernel
theorem dX11_bails_3 : decode cX11_bails 3 = .ok (.invokevirtual 263, 3) := by decide +kernel
theorem dX11_bails_6 : decode cX11_bails 6 = .ok (.iload_n 2, 1) := by decide +kernel
theorem dX11_bails_7 : decode cX11_bails 7 = .ok (.if_icmp .ge 5, 3) := by decide +kernel
theorem dX11_bails_10 : decode cX11_bails 10 = .ok (.iconst 0, 1) := by decide +kernel
theorem dX11_bails_11 : decode cX11_bails 11 = .ok (.ireturn, 1) := by decide +kernel
theorem dX11_bails_12 : decode cX11_bails 12 = .ok (.aload_n 0, 1) := by decide +kernel
theorem dX11_bails_13 : decode cX11_bails 13 = .ok (.getfield 7, 3) := by decide +kernel
theorem dX11_bails_16 : decode cX11_bails 16 = .ok (.iload_n 1, 1) := by decide +kernel
theorem dX11_bails_17 : decode cX11_bails 17 = .ok (.invokestatic 257, 3) := by decide +kernel
theorem dX11_bails_20 : decode cX11_bails 20 = .ok (.iconst 4, 1) := by decide +kernel
theorem dX11_bails_21 : decode cX11_bails 21 = .ok (.iadd, 1) := by decide +kernel
theorem dX11_bails_22 : decode cX11_bails 22 = .ok (.dup2, 1) := by decide +kernel
theorem dX11_bails_23 : decode cX11_bails 23 = .ok (.iaload, 1) := by decide +kernel
theorem dX11_bails_24 : decode cX11_bails 24 = .ok (.iload_n 2, 1) := by decide +kernel
theorem dX11_bails_25 : decode cX11_bails 25 = .ok (.isub, 1) := by decide +kernel
theorem dX11_bails_26 : decode cX11_bails 26 = .ok (.iastore, 1) := by decide +kernel
theorem dX11_bails_27 : decode cX11_bails 27 = .ok (.iconst 1, 1) := by decide +kernel
theorem dX11_bails_28 : decode cX11_bails 28 = .ok (.ireturn, 1) := by decide +kernel
theorem dX11_bail_0 : decode cX11_bail 0 = .ok (.aload_n 0, 1) := by decide +kernel
theorem dX11_bail_1 : decode cX11_bail 1 = .ok (.iload_n 1, 1) := by decide +kernel
theorem dX11_bail_2 : decode cX11_bail 2 = .ok (.invokevirtual 302, 3) := by decide +kernel
theorem dX11_bail_5 : decode cX11_bail 5 = .ok (.ifCond .eq 15, 3) := by decide +kernel
theorem dX11_bail_8 : decode cX11_bail 8 = .ok (.iload_n 2, 1) := by decide +kernel
theorem dX11_bail_9 : decode cX11_bail 9 = .ok (.i2l, 1) := by decide +kernel
theorem dX11_bail_10 : decode cX11_bail 10 = .ok (.lconst 1, 1) := by decide +kernel
theorem dX11_bail_11 : decode cX11_bail 11 = .ok (.ldc2_w 348, 3) := by decide +kernel
theorem dX11_bail_14 : decode cX11_bail 14 = .ok (.invokestatic 337, 3) := by decide +kernel
theorem dX11_bail_17 : decode cX11_bail 17 = .ok (.ifCond .ne 9, 3) := by decide +kernel
theorem dX11_bail_20 : decode cX11_bail 20 = .ok (.aload_n 0, 1) := by decide +kernel
theorem dX11_bail_21 : decode cX11_bail 21 = .ok (.iconst 1, 1) := by decide +kernel
theorem dX11_bail_22 : decode cX11_bail 22 = .ok (.invokevirtual 90, 3) := by decide +kernel
theorem dX11_bail_25 : decode cX11_bail 25 = .ok (.ireturn, 1) := by decide +kernel
theorem dX11_bail_26 : decode cX11_bail 26 = .ok (.aload_n 0, 1) := by decide +kernel
theorem dX11_bail_27 : decode cX11_bail 27 = .ok (.iload_n 1, 1) := by decide +kernel
theorem dX11_bail_28 : decode cX11_bail 28 = .ok (.iload_n 2, 1) := by decide +kernel
theorem dX11_bail_29 : decode cX11_bail 29 = .ok (.invokevirtual 350, 3) := by decide +kernel
theorem dX11_bail_32 : decode cX11_bail 32 = .ok (.ifCond .eq 16, 3) := by decide +kernel
theorem dX11_bail_35 : decode cX11_bail 35 = .ok (.aload_n 0, 1) := by decide +kernel
theorem dX11_bail_36 : decode cX11_bail 36 = .ok (.aload_n 0, 1) := by decide +kernel
theorem dX11_bail_37 : decode cX11_bail 37 = .ok (.iload_n 1, 1) := by decide +kernel
theorem dX11_bail_38 : decode cX11_bail 38 = .ok (.iconst 4, 1) := by decide +kernel
theorem dX11_bail_39 : decode cX11_bail 39 = .ok (.invokevirtual 263, 3) := by decide +kernel
theorem dX11_bail_42 : decode cX11_bail 42 = .ok (.invokevirtual 94, 3) := by decide +kernel
theorem dX11_bail_45 : decode cX11_bail 45 = .ok (.goto 9, 3) := by decide +kernel
theorem dX11_bail_48 : decode cX11_bail 48 = .ok (.aload_n 0, 1) := by decide +kernel
theorem dX11_bail_49 : decode cX11_bail 49 = .ok (.bipush 7, 2) := by decide +kernel
theorem dX11_bail_51 : decode cX11_bail 51 = .ok (.invokevirtual 90, 3) := by decide +kernel
theorem dX11_bail_54 : decode cX11_bail 54 = .ok (.ireturn, 1) := by decide +kernel
theorem dX11_wipes_0 : decode cX11_wipes 0 = .ok (.iconst 0, 1) := by decide +kernel
theorem dX11_wipes_1 : decode cX11_wipes 1 = .ok (.istore_n 1, 1) := by decide +kernel
theorem dX11_wipes_2 : decode cX11_wipes 2 = .ok (.iconst 0, 1) := by decide +kernel
theorem dX11_wipes_3 : decode cX11_wipes 3 = .ok (.istore_n 2, 1) := by decide +kernel
theorem dX11_wipes_4 : decode cX11_wipes 4 = .ok (.iload_n 2, 1) := by decide +kernel
theorem dX11_wipes_5 : decode cX11_wipes 5 = .ok (.aload_n 0, 1) := by decide +kernel
theorem dX11_wipes_6 : decode cX11_wipes 6 = .ok (.getfield 7, 3) := by decide +kernel
theorem dX11_wipes_9 : decode cX11_wipes 9 = .ok (.iconst 0, 1) := by decide +kernel
theorem dX11_wipes_10 : decode cX11_wipes 10 = .ok (.iaload, 1) := by decide +kernel
theorem dX11_wipes_11 : decode cX11_wipes 11 = .ok (.if_icmp .ge 40, 3) := by decide +kernel
theorem dX11_wipes_14 : decode cX11_wipes 14 = .ok (.iload_n 1, 1) := by decide +kernel
theorem dX11_wipes_15 : decode cX11_wipes 15 = .ok (.aload_n 0, 1) := by decide +kernel
theorem dX11_wipes_16 : decode cX11_wipes 16 = .ok (.iload_n 2, 1) := by decide +kernel
theorem dX11_wipes_17 : decode cX11_wipes 17 = .ok (.bipush 6, 2) := by decide +kernel
theorem dX11_wipes_19 : decode cX11_wipes 19 = .ok (.invokevirtual 263, 3) := by decide +kernel
theorem dX11_wipes_22 : decode cX11_wipes 22 = .ok (.ifCond .le 7, 3) := by decide +kernel
theorem dX11_wipes_25 : decode cX11_wipes 25 = .ok (.iconst 1, 1) := by decide +kernel
theorem dX11_wipes_26 : decode cX11_wipes 26 = .ok (.goto 4, 3) := by decide +kernel
theorem dX11_wipes_29 : decode cX11_wipes 29 = .ok (.iconst 0, 1) := by decide +kernel
theorem dX11_wipes_30 : decode cX11_wipes 30 = .ok (.iadd, 1) := by decide +kernel
theorem dX11_wipes_31 : decode cX11_wipes 31 = .ok (.istore_n 1, 1) := by decide +kernel
theorem dX11_wipes_32 : decode cX11_wipes 32 = .ok (.aload_n 0, 1) := by decide +kernel
theorem dX11_wipes_33 : decode cX11_wipes 33 = .ok (.getfield 7, 3) := by decide +kernel
theorem dX11_wipes_36 : decode cX11_wipes 36 = .ok (.iload_n 2, 1) := by decide +kernel
theorem dX11_wipes_37 : decode cX11_wipes 37 = .ok (.invokestatic 257, 3) := by decide +kernel
theorem dX11_wipes_40 : decode cX11_wipes 40 = .ok (.bipush 6, 2) := by decide +kernel
theorem dX11_wipes_42 : decode cX11_wipes 42 = .ok (.iadd, 1) := by decide +kernel
theorem dX11_wipes_43 : decode cX11_wipes 43 = .ok (.iconst 0, 1) := by decide +kernel
theorem dX11_wipes_44 : decode cX11_wipes 44 = .ok (.iastore, 1) := by decide +kernel
theorem dX11_wipes_45 : decode cX11_wipes 45 = .ok (.iinc 2 1, 3) := by decide +kernel
theorem dX11_wipes_48 : decode cX11_wipes 48 = .ok (.goto (-44), 3) := by decide +kernel
theorem dX11_wipes_51 : decode cX11_wipes 51 = .ok (.iload_n 1, 1) := by decide +kernel
theorem dX11_wipes_52 : decode cX11_wipes 52 = .ok (.ireturn, 1) := by decide +kernel
theorem dX11_wipe_0 : decode cX11_wipe 0 = .ok (.aload_n 0, 1) := by decide +kernel
theorem dX11_wipe_1 : decode cX11_wipe 1 = .ok (.aload_n 0, 1) := by decide +kernel
theorem dX11_wipe_2 : decode cX11_wipe 2 = .ok (.invokevirtual 353, 3) := by decide +kernel
theorem dX11_wipe_5 : decode cX11_wipe 5 = .ok (.invokevirtual 94, 3) := by decide +kernel
theorem dX11_wipe_8 : decode cX11_wipe 8 = .ok (.ireturn, 1) := by decide +kernel
theorem dX11_rota_0 : decode cX11_rota 0 = .ok (.iload_n 1, 1) := by decide +kernel
theorem dX11_rota_1 : decode cX11_rota 1 = .ok (.invokestatic 311, 3) := by decide +kernel
theorem dX11_rota_4 : decode cX11_rota 4 = .ok (.ifCond .eq 11, 3) := by decide +kernel
theorem dX11_rota_7 : decode cX11_rota 7 = .ok (.aload_n 0, 1) := by decide +kernel
theorem dX11_rota_8 : decode cX11_rota 8 = .ok (.iload_n 2, 1) := by decide +kernel
theorem dX11_rota_9 : decode cX11_rota 9 = .ok (.invokevirtual 305, 3) := by decide +kernel
theorem dX11_rota_12 : decode cX11_rota 12 = .ok (.ifCond .ne 9, 3) := by decide +kernel
theorem dX11_rota_15 : decode cX11_rota 15 = .ok (.aload_n 0, 1) := by decide +kernel
theorem dX11_rota_16 : decode cX11_rota 16 = .ok (.iconst 1, 1) := by decide +kernel
theorem dX11_rota_17 : decode cX11_rota 17 = .ok (.invokevirtual 103, 3) := by decide +kernel
theorem dX11_rota_20 : decode cX11_rota 20 = .ok (.ireturn, 1) := by decide +kernel
theorem dX11_rota_21 : decode cX11_rota 21 = .ok (.aload_n 0, 1) := by decide +kernel
theorem dX11_rota_22 : decode cX11_rota 22 = .ok (.aload_n 0, 1) := by decide +kernel
theorem dX11_rota_23 : decode cX11_rota 23 = .ok (.iload_n 2, 1) := by decide +kernel
theorem dX11_rota_24 : decode cX11_rota 24 = .ok (.iconst 5, 1) := by decide +kernel
theorem dX11_rota_25 : decode cX11_rota 25 = .ok (.invokevirtual 272, 3) := by decide +kernel
theorem dX11_rota_28 : decode cX11_rota 28 = .ok (.iload_n 1, 1) := by decide +kernel
theorem dX11_rota_29 : decode cX11_rota 29 = .ok (.invokevirtual 275, 3) := by decide +kernel
theorem dX11_rota_32 : decode cX11_rota 32 = .ok (.iload_n 3, 1) := by decide +kernel
theorem dX11_rota_33 : decode cX11_rota 33 = .ok (.if_icmp .ne 10, 3) := by decide +kernel
theorem dX11_rota_36 : decode cX11_rota 36 = .ok (.aload_n 0, 1) := by decide +kernel
theorem dX11_rota_37 : decode cX11_rota 37 = .ok (.bipush 7, 2) := by decide +kernel
theorem dX11_rota_39 : decode cX11_rota 39 = .ok (.invokevirtual 103, 3) := by decide +kernel
theorem dX11_rota_42 : decode cX11_rota 42 = .ok (.ireturn, 1) := by decide +kernel
theorem dX11_rota_43 : decode cX11_rota 43 = .ok (.aload_n 0, 1) := by decide +kernel
theorem dX11_rota_44 : decode cX11_rota 44 = .ok (.getfield 7, 3) := by decide +kernel
theorem dX11_rota_47 : decode cX11_rota 47 = .ok (.iload_n 2, 1) := by decide +kernel
theorem dX11_rota_48 : decode cX11_rota 48 = .ok (.invokestatic 260, 3) := by decide +kernel
theorem dX11_rota_51 : decode cX11_rota 51 = .ok (.iconst 5, 1) := by decide +kernel
theorem dX11_rota_52 : decode cX11_rota 52 = .ok (.iadd, 1) := by decide +kernel
theorem dX11_rota_53 : decode cX11_rota 53 = .ok (.dup2, 1) := by decide +kernel
theorem dX11_rota_54 : decode cX11_rota 54 = .ok (.iaload, 1) := by decide +kernel
theorem dX11_rota_55 : decode cX11_rota 55 = .ok (.iconst 1, 1) := by decide +kernel
theorem dX11_rota_56 : decode cX11_rota 56 = .ok (.iload_n 1, 1) := by decide +kernel
theorem dX11_rota_57 : decode cX11_rota 57 = .ok (.ishl, 1) := by decide +kernel
theorem dX11_rota_58 : decode cX11_rota 58 = .ok (.ixor, 1) := by decide +kernel
theorem dX11_rota_59 : decode cX11_rota 59 = .ok (.iastore, 1) := by decide +kernel
theorem dX11_rota_60 : decode cX11_rota 60 = .ok (.aload_n 0, 1) := by decide +kernel
theorem dX11_rota_61 : decode cX11_rota 61 = .ok (.iconst 0, 1) := by decide +kernel
theorem dX11_rota_62 : decode cX11_rota 62 = .ok (.invokevirtual 103, 3) := by decide +kernel
theorem dX11_rota_65 : decode cX11_rota 65 = .ok (.ireturn, 1) := by decide +kernel
theorem dX11_moon_0 : decode cX11_moon 0 = .ok (.iload_n 1, 1) := by decide +kernel
theorem dX11_moon_1 : decode cX11_moon 1 = .ok (.invokestatic 311, 3) := by decide +kernel
theorem dX11_moon_4 : decode cX11_moon 4 = .ok (.ifCond .eq 15, 3) := by decide +kernel
theorem dX11_moon_7 : decode cX11_moon 7 = .ok (.iload_n 2, 1) := by decide +kernel
theorem dX11_moon_8 : decode cX11_moon 8 = .ok (.i2l, 1) := by decide +kernel
theorem dX11_moon_9 : decode cX11_moon 9 = .ok (.lconst 0, 1) := by decide +kernel
theorem dX11_moon_10 : decode cX11_moon 10 = .ok (.ldc2_w 335, 3) := by decide +kernel
theorem dX11_moon_13 : decode cX11_moon 13 = .ok (.invokestatic 337, 3) := by decide +kernel
theorem dX11_moon_16 : decode cX11_moon 16 = .ok (.ifCond .ne 9, 3) := by decide +kernel
theorem dX11_moon_19 : decode cX11_moon 19 = .ok (.aload_n 0, 1) := by decide +kernel
theorem dX11_moon_20 : decode cX11_moon 20 = .ok (.iconst 1, 1) := by decide +kernel
theorem dX11_moon_21 : decode cX11_moon 21 = .ok (.invokevirtual 103, 3) := by decide +kernel
theorem dX11_moon_24 : decode cX11_moon 24 = .ok (.ireturn, 1) := by decide +kernel
theorem dX11_moon_25 : decode cX11_moon 25 = .ok (.aload_n 0, 1) := by decide +kernel
theorem dX11_moon_26 : decode cX11_moon 26 = .ok (.getfield 7, 3) := by decide +kernel
theorem dX11_moon_29 : decode cX11_moon 29 = .ok (.sipush 135, 3) := by decide +kernel
theorem dX11_moon_32 : decode cX11_moon 32 = .ok (.iload_n 1, 1) := by decide +kernel
theorem dX11_moon_33 : decode cX11_moon 33 = .ok (.iadd, 1) := by decide +kernel
theorem dX11_moon_34 : decode cX11_moon 34 = .ok (.iload_n 2, 1) := by decide +kernel
theorem dX11_moon_35 : decode cX11_moon 35 = .ok (.iastore, 1) := by decide +kernel
theorem dX11_moon_36 : decode cX11_moon 36 = .ok (.aload_n 0, 1) := by decide +kernel
theorem dX11_moon_37 : decode cX11_moon 37 = .ok (.iconst 0, 1) := by decide +kernel
theorem dX11_moon_38 : decode cX11_moon 38 = .ok (.invokevirtual 103, 3) := by decide +kernel
theorem dX11_moon_41 : decode cX11_moon 41 = .ok (.ireturn, 1) := by decide +kernel
theorem dX11_pump_0 : decode cX11_pump 0 = .ok (.aload_n 0, 1) := by decide +kernel
theorem dX11_pump_1 : decode cX11_pump 1 = .ok (.iload_n 1, 1) := by decide +kernel
theorem dX11_pump_2 : decode cX11_pump 2 = .ok (.invokevirtual 302, 3) := by decide +kernel
theorem dX11_pump_5 : decode cX11_pump 5 = .ok (.ifCond .eq 15, 3) := by decide +kernel
theorem dX11_pump_8 : decode cX11_pump 8 = .ok (.iload_n 2, 1) := by decide +kernel
theorem dX11_pump_9 : decode cX11_pump 9 = .ok (.i2l, 1) := by decide +kernel
theorem dX11_pump_10 : decode cX11_pump 10 = .ok (.lconst 0, 1) := by decide +kernel
theorem dX11_pump_11 : decode cX11_pump 11 = .ok (.ldc2_w 335, 3) := by decide +kernel
theorem dX11_pump_14 : decode cX11_pump 14 = .ok (.invokestatic 337, 3) := by decide +kernel
theorem dX11_pump_17 : decode cX11_pump 17 = .ok (.ifCond .ne 9, 3) := by decide +kernel
theorem dX11_pump_20 : decode cX11_pump 20 = .ok (.aload_n 0, 1) := by decide +kernel
theorem dX11_pump_21 : decode cX11_pump 21 = .ok (.iconst 1, 1) := by decide +kernel
theorem dX11_pump_22 : decode cX11_pump 22 = .ok (.invokevirtual 103, 3) := by decide +kernel
theorem dX11_pump_25 : decode cX11_pump 25 = .ok (.ireturn, 1) := by decide +kernel
theorem dX11_pump_26 : decode cX11_pump 26 = .ok (.aload_n 0, 1) := by decide +kernel
theorem dX11_pump_27 : decode cX11_pump 27 = .ok (.getfield 7, 3) := by decide +kernel
theorem dX11_pump_30 : decode cX11_pump 30 = .ok (.iload_n 1, 1) := by decide +kernel
theorem dX11_pump_31 : decode cX11_pump 31 = .ok (.invokestatic 257, 3) := by decide +kernel
theorem dX11_pump_34 : decode cX11_pump 34 = .ok (.iconst 3, 1) := by decide +kernel
theorem dX11_pump_35 : decode cX11_pump 35 = .ok (.iadd, 1) := by decide +kernel
theorem dX11_pump_36 : decode cX11_pump 36 = .ok (.iload_n 2, 1) := by decide +kernel
theorem dX11_pump_37 : decode cX11_pump 37 = .ok (.iastore, 1) := by decide +kernel
theorem dX11_pump_38 : decode cX11_pump 38 = .ok (.aload_n 0, 1) := by decide +kernel
theorem dX11_pump_39 : decode cX11_pump 39 = .ok (.iconst 0, 1) := by decide +kernel
theorem dX11_pump_40 : decode cX11_pump 40 = .ok (.invokevirtual 103, 3) := by decide +kernel
theorem dX11_pump_43 : decode cX11_pump 43 = .ok (.ireturn, 1) := by decide +kernel
theorem dX11_raise_0 : decode cX11_raise 0 = .ok (.aload_n 0, 1) := by decide +kernel
theorem dX11_raise_1 : decode cX11_raise 1 = .ok (.iload_n 1, 1) := by decide +kernel
theorem dX11_raise_2 : decode cX11_raise 2 = .ok (.invokevirtual 305, 3) := by decide +kernel
theorem dX11_raise_5 : decode cX11_raise 5 = .ok (.ifCond .eq 17, 3) := by decide +kernel
theorem dX11_raise_8 : decode cX11_raise 8 = .ok (.iload_n 2, 1) := by decide +kernel
theorem dX11_raise_9 : decode cX11_raise 9 = .ok (.i2l, 1) := by decide +kernel
theorem dX11_raise_10 : decode cX11_raise 10 = .ok (.ldc2_w 356, 3) := by decide +kernel
theorem dX11_raise_13 : decode cX11_raise 13 = .ok (.ldc2_w 335, 3) := by decide +kernel
theorem dX11_raise_16 : decode cX11_raise 16 = .ok (.invokestatic 337, 3) := by decide +kernel
theorem dX11_raise_19 : decode cX11_raise 19 = .ok (.ifCond .ne 9, 3) := by decide +kernel
theorem dX11_raise_22 : decode cX11_raise 22 = .ok (.aload_n 0, 1) := by decide +kernel
theorem dX11_raise_23 : decode cX11_raise 23 = .ok (.iconst 1, 1) := by decide +kernel
theorem dX11_raise_24 : decode cX11_raise 24 = .ok (.invokevirtual 90, 3) := by decide +kernel
theorem dX11_raise_27 : decode cX11_raise 27 = .ok (.ireturn, 1) := by decide +kernel
theorem dX11_raise_28 : decode cX11_raise 28 = .ok (.aload_n 0, 1) := by decide +kernel
theorem dX11_raise_29 : decode cX11_raise 29 = .ok (.iload_n 1, 1) := by decide +kernel
theorem dX11_raise_30 : decode cX11_raise 30 = .ok (.iconst 2, 1) := by decide +kernel
theorem dX11_raise_31 : decode cX11_raise 31 = .ok (.invokevirtual 272, 3) := by decide +kernel
theorem dX11_raise_34 : decode cX11_raise 34 = .ok (.iload_n 2, 1) := by decide +kernel
theorem dX11_raise_35 : decode cX11_raise 35 = .ok (.iadd, 1) := by decide +kernel
theorem dX11_raise_36 : decode cX11_raise 36 = .ok (.i2l, 1) := by decide +kernel
theorem dX11_raise_37 : decode cX11_raise 37 = .ok (.lconst 0, 1) := by decide +kernel
theorem dX11_raise_38 : decode cX11_raise 38 = .ok (.ldc2_w 335, 3) := by decide +kernel
theorem dX11_raise_41 : decode cX11_raise 41 = .ok (.invokestatic 337, 3) := by decide +kernel
theorem dX11_raise_44 : decode cX11_raise 44 = .ok (.ifCond .ne 10, 3) := by decide +kernel
theorem dX11_raise_47 : decode cX11_raise 47 = .ok (.aload_n 0, 1) := by decide +kernel
theorem dX11_raise_48 : decode cX11_raise 48 = .ok (.bipush 7, 2) := by decide +kernel
theorem dX11_raise_50 : decode cX11_raise 50 = .ok (.invokevirtual 90, 3) := by decide +kernel
theorem dX11_raise_53 : decode cX11_raise 53 = .ok (.ireturn, 1) := by decide +kernel
theorem dX11_raise_54 : decode cX11_raise 54 = .ok (.aload_n 0, 1) := by decide +kernel
theorem dX11_raise_55 : decode cX11_raise 55 = .ok (.getfield 7, 3) := by decide +kernel
theorem dX11_raise_58 : decode cX11_raise 58 = .ok (.iload_n 1, 1) := by decide +kernel
theorem dX11_raise_59 : decode cX11_raise 59 = .ok (.invokestatic 260, 3) := by decide +kernel
theorem dX11_raise_62 : decode cX11_raise 62 = .ok (.iconst 2, 1) := by decide +kernel
theorem dX11_raise_63 : decode cX11_raise 63 = .ok (.iadd, 1) := by decide +kernel
theorem dX11_raise_64 : decode cX11_raise 64 = .ok (.dup2, 1) := by decide +kernel
theorem dX11_raise_65 : decode cX11_raise 65 = .ok (.iaload, 1) := by decide +kernel
theorem dX11_raise_66 : decode cX11_raise 66 = .ok (.iload_n 2, 1) := by decide +kernel
theorem dX11_raise_67 : decode cX11_raise 67 = .ok (.iadd, 1) := by decide +kernel
theorem dX11_raise_68 : decode cX11_raise 68 = .ok (.iastore, 1) := by decide +kernel
theorem dX11_raise_69 : decode cX11_raise 69 = .ok (.aload_n 0, 1) := by decide +kernel
theorem dX11_raise_70 : decode cX11_raise 70 = .ok (.aload_n 0, 1) := by decide +kernel
theorem dX11_raise_71 : decode cX11_raise 71 = .ok (.iload_n 1, 1) := by decide +kernel
theorem dX11_raise_72 : decode cX11_raise 72 = .ok (.iconst 2, 1) := by decide +kernel
theorem dX11_raise_73 : decode cX11_raise 73 = .ok (.invokevirtual 272, 3) := by decide +kernel
theorem dX11_raise_76 : decode cX11_raise 76 = .ok (.invokevirtual 94, 3) := by decide +kernel
theorem dX11_raise_79 : decode cX11_raise 79 = .ok (.ireturn, 1) := by decide +kernel
theorem dX11_build_0 : decode cX11_build 0 = .ok (.aload_n 0, 1) := by decide +kernel
theorem dX11_build_1 : decode cX11_build 1 = .ok (.iload_n 1, 1) := by decide +kernel
theorem dX11_build_2 : decode cX11_build 2 = .ok (.invokevirtual 302, 3) := by decide +kernel
theorem dX11_build_5 : decode cX11_build 5 = .ok (.ifCond .ne 9, 3) := by decide +kernel
theorem dX11_build_8 : decode cX11_build 8 = .ok (.aload_n 0, 1) := by decide +kernel
theorem dX11_build_9 : decode cX11_build 9 = .ok (.iconst 1, 1) := by decide +kernel
theorem dX11_build_10 : decode cX11_build 10 = .ok (.invokevirtual 90, 3) := by decide +kernel
theorem dX11_build_13 : decode cX11_build 13 = .ok (.ireturn, 1) := by decide +kernel
theorem dX11_build_14 : decode cX11_build 14 = .ok (.aload_n 0, 1) := by decide +kernel
theorem dX11_build_15 : decode cX11_build 15 = .ok (.iload_n 1, 1) := by decide +kernel
theorem dX11_build_16 : decode cX11_build 16 = .ok (.iconst 5, 1) := by decide +kernel
theorem dX11_build_17 : decode cX11_build 17 = .ok (.invokevirtual 263, 3) := by decide +kernel
theorem dX11_build_20 : decode cX11_build 20 = .ok (.ifCond .ne 10, 3) := by decide +kernel
theorem dX11_build_23 : decode cX11_build 23 = .ok (.aload_n 0, 1) := by decide +kernel
theorem dX11_build_24 : decode cX11_build 24 = .ok (.bipush 7, 2) := by decide +kernel
theorem dX11_build_26 : decode cX11_build 26 = .ok (.invokevirtual 90, 3) := by decide +kernel
theorem dX11_build_29 : decode cX11_build 29 = .ok (.ireturn, 1) := by decide +kernel
theorem dX11_build_30 : decode cX11_build 30 = .ok (.aload_n 0, 1) := by decide +kernel
theorem dX11_build_31 : decode cX11_build 31 = .ok (.getfield 7, 3) := by decide +kernel
theorem dX11_build_34 : decode cX11_build 34 = .ok (.iload_n 1, 1) := by decide +kernel
theorem dX11_build_35 : decode cX11_build 35 = .ok (.invokestatic 257, 3) := by decide +kernel
theorem dX11_build_38 : decode cX11_build 38 = .ok (.iconst 5, 1) := by decide +kernel
theorem dX11_build_39 : decode cX11_build 39 = .ok (.iadd, 1) := by decide +kernel
theorem dX11_build_40 : decode cX11_build 40 = .ok (.iconst 0, 1) := by decide +kernel
theorem dX11_build_41 : decode cX11_build 41 = .ok (.iastore, 1) := by decide +kernel
theorem dX11_build_42 : decode cX11_build 42 = .ok (.aload_n 0, 1) := by decide +kernel
theorem dX11_build_43 : decode cX11_build 43 = .ok (.aload_n 0, 1) := by decide +kernel
theorem dX11_build_44 : decode cX11_build 44 = .ok (.iconst 1, 1) := by decide +kernel
theorem dX11_build_45 : decode cX11_build 45 = .ok (.invokevirtual 299, 3) := by decide +kernel
theorem dX11_build_48 : decode cX11_build 48 = .ok (.invokestatic 358, 3) := by decide +kernel
theorem dX11_build_51 : decode cX11_build 51 = .ok (.invokevirtual 94, 3) := by decide +kernel
theorem dX11_build_54 : decode cX11_build 54 = .ok (.ireturn, 1) := by decide +kernel
theorem dX11_keeps_0 : decode cX11_keeps 0 = .ok (.iconst 0, 1) := by decide +kernel
theorem dX11_keeps_1 : decode cX11_keeps 1 = .ok (.istore_n 2, 1) := by decide +kernel
theorem dX11_keeps_2 : decode cX11_keeps 2 = .ok (.iload_n 2, 1) := by decide +kernel
theorem dX11_keeps_3 : decode cX11_keeps 3 = .ok (.sipush 160, 3) := by decide +kernel
theorem dX11_keeps_6 : decode cX11_keeps 6 = .ok (.if_icmp .ge 23, 3) := by decide +kernel
theorem dX11_keeps_9 : decode cX11_keeps 9 = .ok (.aload_n 0, 1) := by decide +kernel
theorem dX11_keeps_10 : decode cX11_keeps 10 = .ok (.getfield 7, 3) := by decide +kernel
theorem dX11_keeps_13 : decode cX11_keeps 13 = .ok (.iload_n 1, 1) := by decide +kernel
theorem dX11_keeps_14 : decode cX11_keeps 14 = .ok (.iload_n 2, 1) := by decide +kernel
theorem dX11_keeps_15 : decode cX11_keeps 15 = .ok (.iadd, 1) := by decide +kernel
theorem dX11_keeps_16 : decode cX11_keeps 16 = .ok (.aload_n 0, 1) := by decide +kernel
theorem dX11_keeps_17 : decode cX11_keeps 17 = .ok (.getfield 7, 3) := by decide +kernel
theorem dX11_keeps_20 : decode cX11_keeps 20 = .ok (.iload_n 2, 1) := by decide +kernel
theorem dX11_keeps_21 : decode cX11_keeps 21 = .ok (.iaload, 1) := by decide +kernel
theorem dX11_keeps_22 : decode cX11_keeps 22 = .ok (.iastore, 1) := by decide +kernel
theorem dX11_keeps_23 : decode cX11_keeps 23 = .ok (.iinc 2 1, 3) := by decide +kernel
theorem dX11_keeps_26 : decode cX11_keeps 26 = .ok (.goto (-24), 3) := by decide +kernel
theorem dX11_keeps_29 : decode cX11_keeps 29 = .ok (.return_, 1) := by decide +kernel
theorem dX11_restores_0 : decode cX11_restores 0 = .ok (.iconst 0, 1) := by decide +kernel
theorem dX11_restores_1 : decode cX11_restores 1 = .ok (.istore_n 2, 1) := by decide +kernel
theorem dX11_restores_2 : decode cX11_restores 2 = .ok (.iload_n 2, 1) := by decide +kernel
theorem dX11_restores_3 : decode cX11_restores 3 = .ok (.sipush 160, 3) := by decide +kernel
theorem dX11_restores_6 : decode cX11_restores 6 = .ok (.if_icmp .ge 23, 3) := by decide +kernel
theorem dX11_restores_9 : decode cX11_restores 9 = .ok (.aload_n 0, 1) := by decide +kernel
theorem dX11_restores_10 : decode cX11_restores 10 = .ok (.getfield 7, 3) := by decide +kernel
theorem dX11_restores_13 : decode cX11_restores 13 = .ok (.iload_n 2, 1) := by decide +kernel
theorem dX11_restores_14 : decode cX11_restores 14 = .ok (.aload_n 0, 1) := by decide +kernel
theorem dX11_restores_15 : decode cX11_restores 15 = .ok (.getfield 7, 3) := by decide +kernel
theorem dX11_restores_18 : decode cX11_restores 18 = .ok (.iload_n 1, 1) := by decide +kernel
theorem dX11_restores_19 : decode cX11_restores 19 = .ok (.iload_n 2, 1) := by decide +kernel
theorem dX11_restores_20 : decode cX11_restores 20 = .ok (.iadd, 1) := by decide +kernel
theorem dX11_restores_21 : decode cX11_restores 21 = .ok (.iaload, 1) := by decide +kernel
theorem dX11_restores_22 : decode cX11_restores 22 = .ok (.iastore, 1) := by decide +kernel
theorem dX11_restores_23 : decode cX11_restores 23 = .ok (.iinc 2 1, 3) := by decide +kernel
theorem dX11_restores_26 : decode cX11_restores 26 = .ok (.goto (-24), 3) := by decide +kernel
theorem dX11_restores_29 : decode cX11_restores 29 = .ok (.return_, 1) := by decide +kernel
theorem dX11_isSpan_0 : decode cX11_isSpan 0 = .ok (.iload_n 0, 1) := by decide +kernel
theorem dX11_isSpan_1 : decode cX11_isSpan 1 = .ok (.i2l, 1) := by decide +kernel
theorem dX11_isSpan_2 : decode cX11_isSpan 2 = .ok (.lconst 0, 1) := by decide +kernel
theorem dX11_isSpan_3 : decode cX11_isSpan 3 = .ok (.ldc2_w 335, 3) := by decide +kernel
theorem dX11_isSpan_6 : decode cX11_isSpan 6 = .ok (.invokestatic 337, 3) := by decide +kernel
theorem dX11_isSpan_9 : decode cX11_isSpan 9 = .ok (.ireturn, 1) := by decide +kernel
theorem dX11_waterIn_0 : decode cX11_waterIn 0 = .ok (.aload_n 0, 1) := by decide +kernel
theorem dX11_waterIn_1 : decode cX11_waterIn 1 = .ok (.sipush 3144, 3) := by decide +kernel
theorem dX11_waterIn_4 : decode cX11_waterIn 4 = .ok (.invokevirtual 361, 3) := by decide +kernel
theorem dX11_waterIn_7 : decode cX11_waterIn 7 = .ok (.aload_n 0, 1) := by decide +kernel
theorem dX11_waterIn_8 : decode cX11_waterIn 8 = .ok (.iload_n 2, 1) := by decide +kernel
theorem dX11_waterIn_9 : decode cX11_waterIn 9 = .ok (.invokevirtual 341, 3) := by decide +kernel
theorem dX11_waterIn_12 : decode cX11_waterIn 12 = .ok (.pop, 1) := by decide +kernel
theorem dX11_waterIn_13 : decode cX11_waterIn 13 = .ok (.iload_n 1, 1) := by decide +kernel
theorem dX11_waterIn_14 : decode cX11_waterIn 14 = .ok (.iconst (-1), 1) := by decide +kernel
theorem dX11_waterIn_15 : decode cX11_waterIn 15 = .ok (.if_icmp .ne 10, 3) := by decide +kernel
theorem dX11_waterIn_18 : decode cX11_waterIn 18 = .ok (.aload_n 0, 1) := by decide +kernel
theorem dX11_waterIn_19 : decode cX11_waterIn 19 = .ok (.invokevirtual 296, 3) := by decide +kernel
theorem dX11_waterIn_22 : decode cX11_waterIn 22 = .ok (.goto 9, 3) := by decide +kernel
theorem dX11_waterIn_25 : decode cX11_waterIn 25 = .ok (.aload_n 0, 1) := by decide +kernel
theorem dX11_waterIn_26 : decode cX11_waterIn 26 = .ok (.iload_n 1, 1) := by decide +kernel
theorem dX11_waterIn_27 : decode cX11_waterIn 27 = .ok (.iconst 4, 1) := by decide +kernel
theorem dX11_waterIn_28 : decode cX11_waterIn 28 = .ok (.invokevirtual 263, 3) := by decide +kernel
theorem dX11_waterIn_31 : decode cX11_waterIn 31 = .ok (.istore_n 3, 1) := by decide +kernel
theorem dX11_waterIn_32 : decode cX11_waterIn 32 = .ok (.aload_n 0, 1) := by decide +kernel
theorem dX11_waterIn_33 : decode cX11_waterIn 33 = .ok (.sipush 3144, 3) := by decide +kernel
theorem dX11_waterIn_36 : decode cX11_waterIn 36 = .ok (.invokevirtual 364, 3) := by decide +kernel
theorem dX11_waterIn_39 : decode cX11_waterIn 39 = .ok (.iload_n 3, 1) := by decide +kernel
theorem dX11_waterIn_40 : decode cX11_waterIn 40 = .ok (.ireturn, 1) := by decide +kernel
theorem dX11_later_0 : decode cX11_later 0 = .ok (.aload_n 0, 1) := by decide +kernel
theorem dX11_later_1 : decode cX11_later 1 = .ok (.iload_n 1, 1) := by decide +kernel
theorem dX11_later_2 : decode cX11_later 2 = .ok (.invokevirtual 302, 3) := by decide +kernel
theorem dX11_later_5 : decode cX11_later 5 = .ok (.ifCond .eq 23, 3) := by decide +kernel
theorem dX11_later_8 : decode cX11_later 8 = .ok (.iload_n 2, 1) := by decide +kernel
theorem dX11_later_9 : decode cX11_later 9 = .ok (.invokestatic 367, 3) := by decide +kernel
theorem dX11_later_12 : decode cX11_later 12 = .ok (.ifCond .eq 16, 3) := by decide +kernel
theorem dX11_later_15 : decode cX11_later 15 = .ok (.aload_n 0, 1) := by decide +kernel
theorem dX11_later_16 : decode cX11_later 16 = .ok (.aload_n 0, 1) := by decide +kernel
theorem dX11_later_17 : decode cX11_later 17 = .ok (.iload_n 1, 1) := by decide +kernel
theorem dX11_later_18 : decode cX11_later 18 = .ok (.iload_n 2, 1) := by decide +kernel
theorem dX11_later_19 : decode cX11_later 19 = .ok (.invokevirtual 370, 3) := by decide +kernel
theorem dX11_later_22 : decode cX11_later 22 = .ok (.invokevirtual 94, 3) := by decide +kernel
theorem dX11_later_25 : decode cX11_later 25 = .ok (.goto 8, 3) := by decide +kernel
theorem dX11_later_28 : decode cX11_later 28 = .ok (.aload_n 0, 1) := by decide +kernel
theorem dX11_later_29 : decode cX11_later 29 = .ok (.iconst 1, 1) := by decide +kernel
theorem dX11_later_30 : decode cX11_later 30 = .ok (.invokevirtual 90, 3) := by decide +kernel
theorem dX11_later_33 : decode cX11_later 33 = .ok (.ireturn, 1) := by decide +kernel
theorem dX11_allLater_0 : decode cX11_allLater 0 = .ok (.iload_n 1, 1) := by decide +kernel
theorem dX11_allLater_1 : decode cX11_allLater 1 = .ok (.invokestatic 367, 3) := by decide +kernel
theorem dX11_allLater_4 : decode cX11_allLater 4 = .ok (.ifCond .eq 16, 3) := by decide +kernel
theorem dX11_allLater_7 : decode cX11_allLater 7 = .ok (.aload_n 0, 1) := by decide +kernel
theorem dX11_allLater_8 : decode cX11_allLater 8 = .ok (.aload_n 0, 1) := by decide +kernel
theorem dX11_allLater_9 : decode cX11_allLater 9 = .ok (.iconst (-1), 1) := by decide +kernel
theorem dX11_allLater_10 : decode cX11_allLater 10 = .ok (.iload_n 1, 1) := by decide +kernel
theorem dX11_allLater_11 : decode cX11_allLater 11 = .ok (.invokevirtual 370, 3) := by decide +kernel
theorem dX11_allLater_14 : decode cX11_allLater 14 = .ok (.invokevirtual 94, 3) := by decide +kernel
theorem dX11_allLater_17 : decode cX11_allLater 17 = .ok (.goto 8, 3) := by decide +kernel
theorem dX11_allLater_20 : decode cX11_allLater 20 = .ok (.aload_n 0, 1) := by decide +kernel
theorem dX11_allLater_21 : decode cX11_allLater 21 = .ok (.iconst 1, 1) := by decide +kernel
theorem dX11_allLater_22 : decode cX11_allLater 22 = .ok (.invokevirtual 90, 3) := by decide +kernel
theorem dX11_allLater_25 : decode cX11_allLater 25 = .ok (.ireturn, 1) := by decide +kernel
theorem dX11_hoursTill_0 : decode cX11_hoursTill 0 = .ok (.aload_n 0, 1) := by decide +kernel
theorem dX11_hoursTill_1 : decode cX11_hoursTill 1 = .ok (.sipush 3144, 3) := by decide +kernel
theorem dX11_hoursTill_4 : decode cX11_hoursTill 4 = .ok (.invokevirtual 361, 3) := by decide +kernel
theorem dX11_hoursTill_7 : decode cX11_hoursTill 7 = .ok (.iconst 0, 1) := by decide +kernel
theorem dX11_hoursTill_8 : decode cX11_hoursTill 8 = .ok (.istore_n 3, 1) := by decide +kernel
theorem dX11_hoursTill_9 : decode cX11_hoursTill 9 = .ok (.iload_n 3, 1) := by decide +kernel
theorem dX11_hoursTill_10 : decode cX11_hoursTill 10 = .ok (.bipush 99, 2) := by decide +kernel
theorem dX11_hoursTill_12 : decode cX11_hoursTill 12 = .ok (.if_icmp .gt 43, 3) := by decide +kernel
theorem dX11_hoursTill_15 : decode cX11_hoursTill 15 = .ok (.iload_n 1, 1) := by decide +kernel
theorem dX11_hoursTill_16 : decode cX11_hoursTill 16 = .ok (.iconst 2, 1) := by decide +kernel
theorem dX11_hoursTill_17 : decode cX11_hoursTill 17 = .ok (.if_icmp .ne 14, 3) := by decide +kernel
theorem dX11_hoursTill_20 : decode cX11_hoursTill 20 = .ok (.aload_n 0, 1) := by decide +kernel
theorem dX11_hoursTill_21 : decode cX11_hoursTill 21 = .ok (.iconst 0, 1) := by decide +kernel
theorem dX11_hoursTill_22 : decode cX11_hoursTill 22 = .ok (.invokevirtual 299, 3) := by decide +kernel
theorem dX11_hoursTill_25 : decode cX11_hoursTill 25 = .ok (.ifCond .eq 30, 3) := by decide +kernel
theorem dX11_hoursTill_28 : decode cX11_hoursTill 28 = .ok (.goto 16, 3) := by decide +kernel
theorem dX11_hoursTill_31 : decode cX11_hoursTill 31 = .ok (.aload_n 0, 1) := by decide +kernel
theorem dX11_hoursTill_32 : decode cX11_hoursTill 32 = .ok (.aload_n 0, 1) := by decide +kernel
theorem dX11_hoursTill_33 : decode cX11_hoursTill 33 = .ok (.iload_n 1, 1) := by decide +kernel
theorem dX11_hoursTill_34 : decode cX11_hoursTill 34 = .ok (.invokevirtual 299, 3) := by decide +kernel
theorem dX11_hoursTill_37 : decode cX11_hoursTill 37 = .ok (.iload_n 2, 1) := by decide +kernel
theorem dX11_hoursTill_38 : decode cX11_hoursTill 38 = .ok (.invokevirtual 275, 3) := by decide +kernel
theorem dX11_hoursTill_41 : decode cX11_hoursTill 41 = .ok (.ifCond .ne 14, 3) := by decide +kernel
theorem dX11_hoursTill_44 : decode cX11_hoursTill 44 = .ok (.aload_n 0, 1) := by decide +kernel
theorem dX11_hoursTill_45 : decode cX11_hoursTill 45 = .ok (.invokevirtual 332, 3) := by decide +kernel
theorem dX11_hoursTill_48 : decode cX11_hoursTill 48 = .ok (.pop, 1) := by decide +kernel
theorem dX11_hoursTill_49 : decode cX11_hoursTill 49 = .ok (.iinc 3 1, 3) := by decide +kernel
theorem dX11_hoursTill_52 : decode cX11_hoursTill 52 = .ok (.goto (-43), 3) := by decide +kernel
theorem dX11_hoursTill_55 : decode cX11_hoursTill 55 = .ok (.aload_n 0, 1) := by decide +kernel
theorem dX11_hoursTill_56 : decode cX11_hoursTill 56 = .ok (.sipush 3144, 3) := by decide +kernel
theorem dX11_hoursTill_59 : decode cX11_hoursTill 59 = .ok (.invokevirtual 364, 3) := by decide +kernel
theorem dX11_hoursTill_62 : decode cX11_hoursTill 62 = .ok (.iload_n 3, 1) := by decide +kernel
theorem dX11_hoursTill_63 : decode cX11_hoursTill 63 = .ok (.bipush 99, 2) := by decide +kernel
theorem dX11_hoursTill_65 : decode cX11_hoursTill 65 = .ok (.if_icmp .le 7, 3) := by decide +kernel
theorem dX11_hoursTill_68 : decode cX11_hoursTill 68 = .ok (.iconst (-1), 1) := by decide +kernel
theorem dX11_hoursTill_69 : decode cX11_hoursTill 69 = .ok (.goto 4, 3) := by decide +kernel
theorem dX11_hoursTill_72 : decode cX11_hoursTill 72 = .ok (.iload_n 3, 1) := by decide +kernel
theorem dX11_hoursTill_73 : decode cX11_hoursTill 73 = .ok (.ireturn, 1) := by decide +kernel
theorem dX11_wetIn_0 : decode cX11_wetIn 0 = .ok (.aload_n 0, 1) := by decide +kernel
theorem dX11_wetIn_1 : decode cX11_wetIn 1 = .ok (.iload_n 1, 1) := by decide +kernel
theorem dX11_wetIn_2 : decode cX11_wetIn 2 = .ok (.invokevirtual 302, 3) := by decide +kernel
theorem dX11_wetIn_5 : decode cX11_wetIn 5 = .ok (.ifCond .eq 16, 3) := by decide +kernel
theorem dX11_wetIn_8 : decode cX11_wetIn 8 = .ok (.aload_n 0, 1) := by decide +kernel
theorem dX11_wetIn_9 : decode cX11_wetIn 9 = .ok (.aload_n 0, 1) := by decide +kernel
theorem dX11_wetIn_10 : decode cX11_wetIn 10 = .ok (.iconst 0, 1) := by decide +kernel
theorem dX11_wetIn_11 : decode cX11_wetIn 11 = .ok (.iload_n 1, 1) := by decide +kernel
theorem dX11_wetIn_12 : decode cX11_wetIn 12 = .ok (.invokevirtual 373, 3) := by decide +kernel
theorem dX11_wetIn_15 : decode cX11_wetIn 15 = .ok (.invokevirtual 317, 3) := by decide +kernel
theorem dX11_wetIn_18 : decode cX11_wetIn 18 = .ok (.goto 8, 3) := by decide +kernel
theorem dX11_wetIn_21 : decode cX11_wetIn 21 = .ok (.aload_n 0, 1) := by decide +kernel
theorem dX11_wetIn_22 : decode cX11_wetIn 22 = .ok (.iconst 1, 1) := by decide +kernel
theorem dX11_wetIn_23 : decode cX11_wetIn 23 = .ok (.invokevirtual 90, 3) := by decide +kernel
theorem dX11_wetIn_26 : decode cX11_wetIn 26 = .ok (.ireturn, 1) := by decide +kernel
theorem dX11_drownsIn_0 : decode cX11_drownsIn 0 = .ok (.aload_n 0, 1) := by decide +kernel
theorem dX11_drownsIn_1 : decode cX11_drownsIn 1 = .ok (.iload_n 1, 1) := by decide +kernel
theorem dX11_drownsIn_2 : decode cX11_drownsIn 2 = .ok (.invokevirtual 302, 3) := by decide +kernel
theorem dX11_drownsIn_5 : decode cX11_drownsIn 5 = .ok (.ifCond .eq 16, 3) := by decide +kernel
theorem dX11_drownsIn_8 : decode cX11_drownsIn 8 = .ok (.aload_n 0, 1) := by decide +kernel
theorem dX11_drownsIn_9 : decode cX11_drownsIn 9 = .ok (.aload_n 0, 1) := by decide +kernel
theorem dX11_drownsIn_10 : decode cX11_drownsIn 10 = .ok (.iconst 1, 1) := by decide +kernel
theorem dX11_drownsIn_11 : decode cX11_drownsIn 11 = .ok (.iload_n 1, 1) := by decide +kernel
theorem dX11_drownsIn_12 : decode cX11_drownsIn 12 = .ok (.invokevirtual 373, 3) := by decide +kernel
theorem dX11_drownsIn_15 : decode cX11_drownsIn 15 = .ok (.invokevirtual 317, 3) := by decide +kernel
theorem dX11_drownsIn_18 : decode cX11_drownsIn 18 = .ok (.goto 8, 3) := by decide +kernel
theorem dX11_drownsIn_21 : decode cX11_drownsIn 21 = .ok (.aload_n 0, 1) := by decide +kernel
theorem dX11_drownsIn_22 : decode cX11_drownsIn 22 = .ok (.iconst 1, 1) := by decide +kernel
theorem dX11_drownsIn_23 : decode cX11_drownsIn 23 = .ok (.invokevirtual 90, 3) := by decide +kernel
theorem dX11_drownsIn_26 : decode cX11_drownsIn 26 = .ok (.ireturn, 1) := by decide +kernel
theorem dX11_dryIn_0 : decode cX11_dryIn 0 = .ok (.aload_n 0, 1) := by decide +kernel
theorem dX11_dryIn_1 : decode cX11_dryIn 1 = .ok (.aload_n 0, 1) := by decide +kernel
theorem dX11_dryIn_2 : decode cX11_dryIn 2 = .ok (.iconst 2, 1) := by decide +kernel
theorem dX11_dryIn_3 : decode cX11_dryIn 3 = .ok (.iconst (-1), 1) := by decide +kernel
theorem dX11_dryIn_4 : decode cX11_dryIn 4 = .ok (.invokevirtual 373, 3) := by decide +kernel
theorem dX11_dryIn_7 : decode cX11_dryIn 7 = .ok (.invokevirtual 317, 3) := by decide +kernel
theorem dX11_dryIn_10 : decode cX11_dryIn 10 = .ok (.ireturn, 1) := by decide +kernel
theorem dX11_triesOpen_0 : decode cX11_triesOpen 0 = .ok (.aload_n 0, 1) := by decide +kernel
theorem dX11_triesOpen_1 : decode cX11_triesOpen 1 = .ok (.sipush 3144, 3) := by decide +kernel
theorem dX11_triesOpen_4 : decode cX11_triesOpen 4 = .ok (.invokevirtual 361, 3) := by decide +kernel
theorem dX11_triesOpen_7 : decode cX11_triesOpen 7 = .ok (.aload_n 0, 1) := by decide +kernel
theorem dX11_triesOpen_8 : decode cX11_triesOpen 8 = .ok (.getfield 7, 3) := by decide +kernel
theorem dX11_triesOpen_11 : decode cX11_triesOpen 11 = .ok (.iload_n 1, 1) := by decide +kernel
theorem dX11_triesOpen_12 : decode cX11_triesOpen 12 = .ok (.invokestatic 260, 3) := by decide +kernel
theorem dX11_triesOpen_15 : decode cX11_triesOpen 15 = .ok (.bipush 6, 2) := by decide +kernel
theorem dX11_triesOpen_17 : decode cX11_triesOpen 17 = .ok (.iadd, 1) := by decide +kernel
theorem dX11_triesOpen_18 : decode cX11_triesOpen 18 = .ok (.iconst 1, 1) := by decide +kernel
theorem dX11_triesOpen_19 : decode cX11_triesOpen 19 = .ok (.iastore, 1) := by decide +kernel
theorem dX11_triesOpen_20 : decode cX11_triesOpen 20 = .ok (.aload_n 0, 1) := by decide +kernel
theorem dX11_triesOpen_21 : decode cX11_triesOpen 21 = .ok (.getfield 7, 3) := by decide +kernel
theorem dX11_triesOpen_24 : decode cX11_triesOpen 24 = .ok (.iload_n 1, 1) := by decide +kernel
theorem dX11_triesOpen_25 : decode cX11_triesOpen 25 = .ok (.invokestatic 260, 3) := by decide +kernel
theorem dX11_triesOpen_28 : decode cX11_triesOpen 28 = .ok (.iconst 2, 1) := by decide +kernel
theorem dX11_triesOpen_29 : decode cX11_triesOpen 29 = .ok (.iadd, 1) := by decide +kernel
theorem dX11_triesOpen_30 : decode cX11_triesOpen 30 = .ok (.dup2, 1) := by decide +kernel
theorem dX11_triesOpen_31 : decode cX11_triesOpen 31 = .ok (.iaload, 1) := by decide +kernel
theorem dX11_triesOpen_32 : decode cX11_triesOpen 32 = .ok (.iload_n 2, 1) := by decide +kernel
theorem dX11_triesOpen_33 : decode cX11_triesOpen 33 = .ok (.iadd, 1) := by decide +kernel
theorem dX11_triesOpen_34 : decode cX11_triesOpen 34 = .ok (.iastore, 1) := by decide +kernel
theorem dX11_triesOpen_35 : decode cX11_triesOpen 35 = .ok (.aload_n 0, 1) := by decide +kernel
theorem dX11_triesOpen_36 : decode cX11_triesOpen 36 = .ok (.bipush 12, 2) := by decide +kernel
theorem dX11_triesOpen_38 : decode cX11_triesOpen 38 = .ok (.invokevirtual 341, 3) := by decide +kernel
theorem dX11_triesOpen_41 : decode cX11_triesOpen 41 = .ok (.pop, 1) := by decide +kernel
theorem dX11_triesOpen_42 : decode cX11_triesOpen 42 = .ok (.aload_n 0, 1) := by decide +kernel
theorem dX11_triesOpen_43 : decode cX11_triesOpen 43 = .ok (.aload_n 0, 1) := by decide +kernel
theorem dX11_triesOpen_44 : decode cX11_triesOpen 44 = .ok (.invokevirtual 296, 3) := by decide +kernel
theorem dX11_triesOpen_47 : decode cX11_triesOpen 47 = .ok (.putfield 376, 3) := by decide +kernel
theorem dX11_triesOpen_50 : decode cX11_triesOpen 50 = .ok (.aload_n 0, 1) := by decide +kernel
theorem dX11_triesOpen_51 : decode cX11_triesOpen 51 = .ok (.aload_n 0, 1) := by decide +kernel
theorem dX11_triesOpen_52 : decode cX11_triesOpen 52 = .ok (.iconst 1, 1) := by decide +kernel
theorem dX11_triesOpen_53 : decode cX11_triesOpen 53 = .ok (.invokevirtual 299, 3) := by decide +kernel
theorem dX11_triesOpen_56 : decode cX11_triesOpen 56 = .ok (.putfield 379, 3) := by decide +kernel
theorem dX11_triesOpen_59 : decode cX11_triesOpen 59 = .ok (.aload_n 0, 1) := by decide +kernel
theorem dX11_triesOpen_60 : decode cX11_triesOpen 60 = .ok (.sipush 3144, 3) := by decide +kernel
theorem dX11_triesOpen_63 : decode cX11_triesOpen 63 = .ok (.invokevirtual 364, 3) := by decide +kernel
theorem dX11_triesOpen_66 : decode cX11_triesOpen 66 = .ok (.return_, 1) := by decide +kernel
theorem dX11_fails_0 : decode cX11_fails 0 = .ok (.aload_n 0, 1) := by decide +kernel
theorem dX11_fails_1 : decode cX11_fails 1 = .ok (.iload_n 1, 1) := by decide +kernel
theorem dX11_fails_2 : decode cX11_fails 2 = .ok (.invokevirtual 305, 3) := by decide +kernel
theorem dX11_fails_5 : decode cX11_fails 5 = .ok (.ifCond .ne 9, 3) := by decide +kernel
theorem dX11_fails_8 : decode cX11_fails 8 = .ok (.aload_n 0, 1) := by decide +kernel
theorem dX11_fails_9 : decode cX11_fails 9 = .ok (.iconst 1, 1) := by decide +kernel
theorem dX11_fails_10 : decode cX11_fails 10 = .ok (.invokevirtual 90, 3) := by decide +kernel
theorem dX11_fails_13 : decode cX11_fails 13 = .ok (.ireturn, 1) := by decide +kernel
theorem dX11_fails_14 : decode cX11_fails 14 = .ok (.aload_n 0, 1) := by decide +kernel
theorem dX11_fails_15 : decode cX11_fails 15 = .ok (.iload_n 1, 1) := by decide +kernel
theorem dX11_fails_16 : decode cX11_fails 16 = .ok (.iconst 0, 1) := by decide +kernel
theorem dX11_fails_17 : decode cX11_fails 17 = .ok (.invokevirtual 382, 3) := by decide +kernel
theorem dX11_fails_20 : decode cX11_fails 20 = .ok (.aload_n 0, 1) := by decide +kernel
theorem dX11_fails_21 : decode cX11_fails 21 = .ok (.aload_n 0, 1) := by decide +kernel
theorem dX11_fails_22 : decode cX11_fails 22 = .ok (.getfield 379, 3) := by decide +kernel
theorem dX11_fails_25 : decode cX11_fails 25 = .ok (.invokevirtual 94, 3) := by decide +kernel
theorem dX11_fails_28 : decode cX11_fails 28 = .ok (.ireturn, 1) := by decide +kernel
theorem dX11_worst_0 : decode cX11_worst 0 = .ok (.iconst (-1), 1) := by decide +kernel
theorem dX11_worst_1 : decode cX11_worst 1 = .ok (.istore_n 1, 1) := by decide +kernel
theorem dX11_worst_2 : decode cX11_worst 2 = .ok (.iconst (-1), 1) := by decide +kernel
theorem dX11_worst_3 : decode cX11_worst 3 = .ok (.istore_n 2, 1) := by decide +kernel
theorem dX11_worst_4 : decode cX11_worst 4 = .ok (.iconst 0, 1) := by decide +kernel
theorem dX11_worst_5 : decode cX11_worst 5 = .ok (.istore_n 3, 1) := by decide +kernel
theorem dX11_worst_6 : decode cX11_worst 6 = .ok (.iload_n 3, 1) := by decide +kernel
theorem dX11_worst_7 : decode cX11_worst 7 = .ok (.aload_n 0, 1) := by decide +kernel
theorem dX11_worst_8 : decode cX11_worst 8 = .ok (.getfield 7, 3) := by decide +kernel
theorem dX11_worst_11 : decode cX11_worst 11 = .ok (.iconst 1, 1) := by decide +kernel
theorem dX11_worst_12 : decode cX11_worst 12 = .ok (.iaload, 1) := by decide +kernel
theorem dX11_worst_13 : decode cX11_worst 13 = .ok (.if_icmp .ge 33, 3) := by decide +kernel
theorem dX11_worst_16 : decode cX11_worst 16 = .ok (.aload_n 0, 1) := by decide +kernel
theorem dX11_worst_17 : decode cX11_worst 17 = .ok (.iload_n 3, 1) := by decide +kernel
theorem dX11_worst_18 : decode cX11_worst 18 = .ok (.iconst 0, 1) := by decide +kernel
theorem dX11_worst_19 : decode cX11_worst 19 = .ok (.invokevirtual 382, 3) := by decide +kernel
theorem dX11_worst_22 : decode cX11_worst 22 = .ok (.aload_n 0, 1) := by decide +kernel
theorem dX11_worst_23 : decode cX11_worst 23 = .ok (.getfield 376, 3) := by decide +kernel
theorem dX11_worst_26 : decode cX11_worst 26 = .ok (.iload_n 2, 1) := by decide +kernel
theorem dX11_worst_27 : decode cX11_worst 27 = .ok (.if_icmp .gt 6, 3) := by decide +kernel
theorem dX11_worst_30 : decode cX11_worst 30 = .ok (.goto 10, 3) := by decide +kernel
theorem dX11_worst_33 : decode cX11_worst 33 = .ok (.aload_n 0, 1) := by decide +kernel
theorem dX11_worst_34 : decode cX11_worst 34 = .ok (.getfield 376, 3) := by decide +kernel
theorem dX11_worst_37 : decode cX11_worst 37 = .ok (.istore_n 2, 1) := by decide +kernel
theorem dX11_worst_38 : decode cX11_worst 38 = .ok (.iload_n 3, 1) := by decide +kernel
theorem dX11_worst_39 : decode cX11_worst 39 = .ok (.istore_n 1, 1) := by decide +kernel
theorem dX11_worst_40 : decode cX11_worst 40 = .ok (.iinc 3 1, 3) := by decide +kernel
theorem dX11_worst_43 : decode cX11_worst 43 = .ok (.goto (-37), 3) := by decide +kernel
theorem dX11_worst_46 : decode cX11_worst 46 = .ok (.aload_n 0, 1) := by decide +kernel
theorem dX11_worst_47 : decode cX11_worst 47 = .ok (.iload_n 1, 1) := by decide +kernel
theorem dX11_worst_48 : decode cX11_worst 48 = .ok (.invokevirtual 317, 3) := by decide +kernel
theorem dX11_worst_51 : decode cX11_worst 51 = .ok (.ireturn, 1) := by decide +kernel
theorem dX11_sillFor_0 : decode cX11_sillFor 0 = .ok (.aload_n 0, 1) := by decide +kernel
theorem dX11_sillFor_1 : decode cX11_sillFor 1 = .ok (.iload_n 1, 1) := by decide +kernel
theorem dX11_sillFor_2 : decode cX11_sillFor 2 = .ok (.invokevirtual 305, 3) := by decide +kernel
theorem dX11_sillFor_5 : decode cX11_sillFor 5 = .ok (.ifCond .ne 9, 3) := by decide +kernel
theorem dX11_sillFor_8 : decode cX11_sillFor 8 = .ok (.aload_n 0, 1) := by decide +kernel
theorem dX11_sillFor_9 : decode cX11_sillFor 9 = .ok (.iconst 1, 1) := by decide +kernel
theorem dX11_sillFor_10 : decode cX11_sillFor 10 = .ok (.invokevirtual 90, 3) := by decide +kernel
theorem dX11_sillFor_13 : decode cX11_sillFor 13 = .ok (.ireturn, 1) := by decide +kernel
theorem dX11_sillFor_14 : decode cX11_sillFor 14 = .ok (.iconst 0, 1) := by decide +kernel
theorem dX11_sillFor_15 : decode cX11_sillFor 15 = .ok (.istore_n 2, 1) := by decide +kernel
theorem dX11_sillFor_16 : decode cX11_sillFor 16 = .ok (.iload_n 2, 1) := by decide +kernel
theorem dX11_sillFor_17 : decode cX11_sillFor 17 = .ok (.aload_n 0, 1) := by decide +kernel
theorem dX11_sillFor_18 : decode cX11_sillFor 18 = .ok (.iload_n 1, 1) := by decide +kernel
theorem dX11_sillFor_19 : decode cX11_sillFor 19 = .ok (.iconst 2, 1) := by decide +kernel
theorem dX11_sillFor_20 : decode cX11_sillFor 20 = .ok (.invokevirtual 272, 3) := by decide +kernel
theorem dX11_sillFor_23 : decode cX11_sillFor 23 = .ok (.iadd, 1) := by decide +kernel
theorem dX11_sillFor_24 : decode cX11_sillFor 24 = .ok (.bipush 100, 2) := by decide +kernel
theorem dX11_sillFor_26 : decode cX11_sillFor 26 = .ok (.if_icmp .ge 33, 3) := by decide +kernel
theorem dX11_sillFor_29 : decode cX11_sillFor 29 = .ok (.aload_n 0, 1) := by decide +kernel
theorem dX11_sillFor_30 : decode cX11_sillFor 30 = .ok (.iload_n 1, 1) := by decide +kernel
theorem dX11_sillFor_31 : decode cX11_sillFor 31 = .ok (.iload_n 2, 1) := by decide +kernel
theorem dX11_sillFor_32 : decode cX11_sillFor 32 = .ok (.invokevirtual 382, 3) := by decide +kernel
theorem dX11_sillFor_35 : decode cX11_sillFor 35 = .ok (.aload_n 0, 1) := by decide +kernel
theorem dX11_sillFor_36 : decode cX11_sillFor 36 = .ok (.getfield 379, 3) := by decide +kernel
theorem dX11_sillFor_39 : decode cX11_sillFor 39 = .ok (.aload_n 0, 1) := by decide +kernel
theorem dX11_sillFor_40 : decode cX11_sillFor 40 = .ok (.iconst 1, 1) := by decide +kernel
theorem dX11_sillFor_41 : decode cX11_sillFor 41 = .ok (.invokevirtual 299, 3) := by decide +kernel
theorem dX11_sillFor_44 : decode cX11_sillFor 44 = .ok (.if_icmp .ne 9, 3) := by decide +kernel
theorem dX11_sillFor_47 : decode cX11_sillFor 47 = .ok (.aload_n 0, 1) := by decide +kernel
theorem dX11_sillFor_48 : decode cX11_sillFor 48 = .ok (.iload_n 2, 1) := by decide +kernel
theorem dX11_sillFor_49 : decode cX11_sillFor 49 = .ok (.invokevirtual 94, 3) := by decide +kernel
theorem dX11_sillFor_52 : decode cX11_sillFor 52 = .ok (.ireturn, 1) := by decide +kernel
theorem dX11_sillFor_53 : decode cX11_sillFor 53 = .ok (.iinc 2 1, 3) := by decide +kernel
theorem dX11_sillFor_56 : decode cX11_sillFor 56 = .ok (.goto (-40), 3) := by decide +kernel
theorem dX11_sillFor_59 : decode cX11_sillFor 59 = .ok (.aload_n 0, 1) := by decide +kernel
theorem dX11_sillFor_60 : decode cX11_sillFor 60 = .ok (.bipush 6, 2) := by decide +kernel
theorem dX11_sillFor_62 : decode cX11_sillFor 62 = .ok (.invokevirtual 90, 3) := by decide +kernel
theorem dX11_sillFor_65 : decode cX11_sillFor 65 = .ok (.ireturn, 1) := by decide +kernel
theorem dX11_through_0 : decode cX11_through 0 = .ok (.aload_n 0, 1) := by decide +kernel
theorem dX11_through_1 : decode cX11_through 1 = .ok (.iload_n 1, 1) := by decide +kernel
theorem dX11_through_2 : decode cX11_through 2 = .ok (.invokevirtual 305, 3) := by decide +kernel
theorem dX11_through_5 : decode cX11_through 5 = .ok (.ifCond .eq 10, 3) := by decide +kernel
theorem dX11_through_8 : decode cX11_through 8 = .ok (.iload_n 2, 1) := by decide +kernel
theorem dX11_through_9 : decode cX11_through 9 = .ok (.invokestatic 367, 3) := by decide +kernel
theorem dX11_through_12 : decode cX11_through 12 = .ok (.ifCond .ne 9, 3) := by decide +kernel
theorem dX11_through_15 : decode cX11_through 15 = .ok (.aload_n 0, 1) := by decide +kernel
theorem dX11_through_16 : decode cX11_through 16 = .ok (.iconst 1, 1) := by decide +kernel
theorem dX11_through_17 : decode cX11_through 17 = .ok (.invokevirtual 90, 3) := by decide +kernel
theorem dX11_through_20 : decode cX11_through 20 = .ok (.ireturn, 1) := by decide +kernel
theorem dX11_through_21 : decode cX11_through 21 = .ok (.aload_n 0, 1) := by decide +kernel
theorem dX11_through_22 : decode cX11_through 22 = .ok (.getfield 56, 3) := by decide +kernel
theorem dX11_through_25 : decode cX11_through 25 = .ok (.iload_n 1, 1) := by decide +kernel
theorem dX11_through_26 : decode cX11_through 26 = .ok (.iconst 0, 1) := by decide +kernel
theorem dX11_through_27 : decode cX11_through 27 = .ok (.iastore, 1) := by decide +kernel
theorem dX11_through_28 : decode cX11_through 28 = .ok (.aload_n 0, 1) := by decide +kernel
theorem dX11_through_29 : decode cX11_through 29 = .ok (.iconst (-1), 1) := by decide +kernel
theorem dX11_through_30 : decode cX11_through 30 = .ok (.iload_n 2, 1) := by decide +kernel
theorem dX11_through_31 : decode cX11_through 31 = .ok (.invokevirtual 370, 3) := by decide +kernel
theorem dX11_through_34 : decode cX11_through 34 = .ok (.pop, 1) := by decide +kernel
theorem dX11_through_35 : decode cX11_through 35 = .ok (.aload_n 0, 1) := by decide +kernel
theorem dX11_through_36 : decode cX11_through 36 = .ok (.aload_n 0, 1) := by decide +kernel
theorem dX11_through_37 : decode cX11_through 37 = .ok (.getfield 56, 3) := by decide +kernel
theorem dX11_through_40 : decode cX11_through 40 = .ok (.iload_n 1, 1) := by decide +kernel
theorem dX11_through_41 : decode cX11_through 41 = .ok (.iaload, 1) := by decide +kernel
theorem dX11_through_42 : decode cX11_through 42 = .ok (.invokevirtual 94, 3) := by decide +kernel
theorem dX11_through_45 : decode cX11_through 45 = .ok (.ireturn, 1) := by decide +kernel
theorem dX11_greatest_0 : decode cX11_greatest 0 = .ok (.aload_n 0, 1) := by decide +kernel
theorem dX11_greatest_1 : decode cX11_greatest 1 = .ok (.iload_n 1, 1) := by decide +kernel
theorem dX11_greatest_2 : decode cX11_greatest 2 = .ok (.invokevirtual 302, 3) := by decide +kernel
theorem dX11_greatest_5 : decode cX11_greatest 5 = .ok (.ifCond .eq 10, 3) := by decide +kernel
theorem dX11_greatest_8 : decode cX11_greatest 8 = .ok (.iload_n 2, 1) := by decide +kernel
theorem dX11_greatest_9 : decode cX11_greatest 9 = .ok (.invokestatic 367, 3) := by decide +kernel
theorem dX11_greatest_12 : decode cX11_greatest 12 = .ok (.ifCond .ne 9, 3) := by decide +kernel
theorem dX11_greatest_15 : decode cX11_greatest 15 = .ok (.aload_n 0, 1) := by decide +kernel
theorem dX11_greatest_16 : decode cX11_greatest 16 = .ok (.iconst 1, 1) := by decide +kernel
theorem dX11_greatest_17 : decode cX11_greatest 17 = .ok (.invokevirtual 90, 3) := by decide +kernel
theorem dX11_greatest_20 : decode cX11_greatest 20 = .ok (.ireturn, 1) := by decide +kernel
theorem dX11_greatest_21 : decode cX11_greatest 21 = .ok (.aload_n 0, 1) := by decide +kernel
theorem dX11_greatest_22 : decode cX11_greatest 22 = .ok (.sipush 3144, 3) := by decide +kernel
theorem dX11_greatest_25 : decode cX11_greatest 25 = .ok (.invokevirtual 361, 3) := by decide +kernel
theorem dX11_greatest_28 : decode cX11_greatest 28 = .ok (.aload_n 0, 1) := by decide +kernel
theorem dX11_greatest_29 : decode cX11_greatest 29 = .ok (.iload_n 1, 1) := by decide +kernel
theorem dX11_greatest_30 : decode cX11_greatest 30 = .ok (.invokevirtual 269, 3) := by decide +kernel
theorem dX11_greatest_33 : decode cX11_greatest 33 = .ok (.istore_n 3, 1) := by decide +kernel
theorem dX11_greatest_34 : decode cX11_greatest 34 = .ok (.iconst 0, 1) := by decide +kernel
theorem dX11_greatest_35 : decode cX11_greatest 35 = .ok (.istore 4, 2) := by decide +kernel
theorem dX11_greatest_37 : decode cX11_greatest 37 = .ok (.iload 4, 2) := by decide +kernel
theorem dX11_greatest_39 : decode cX11_greatest 39 = .ok (.iload_n 2, 1) := by decide +kernel
theorem dX11_greatest_40 : decode cX11_greatest 40 = .ok (.if_icmp .ge 24, 3) := by decide +kernel
theorem dX11_greatest_43 : decode cX11_greatest 43 = .ok (.aload_n 0, 1) := by decide +kernel
theorem dX11_greatest_44 : decode cX11_greatest 44 = .ok (.invokevirtual 332, 3) := by decide +kernel
theorem dX11_greatest_47 : decode cX11_greatest 47 = .ok (.pop, 1) := by decide +kernel
theorem dX11_greatest_48 : decode cX11_greatest 48 = .ok (.iload_n 3, 1) := by decide +kernel
theorem dX11_greatest_49 : decode cX11_greatest 49 = .ok (.aload_n 0, 1) := by decide +kernel
theorem dX11_greatest_50 : decode cX11_greatest 50 = .ok (.iload_n 1, 1) := by decide +kernel
theorem dX11_greatest_51 : decode cX11_greatest 51 = .ok (.invokevirtual 269, 3) := by decide +kernel
theorem dX11_greatest_54 : decode cX11_greatest 54 = .ok (.invokestatic 281, 3) := by decide +kernel
theorem dX11_greatest_57 : decode cX11_greatest 57 = .ok (.istore_n 3, 1) := by decide +kernel
theorem dX11_greatest_58 : decode cX11_greatest 58 = .ok (.iinc 4 1, 3) := by decide +kernel
theorem dX11_greatest_61 : decode cX11_greatest 61 = .ok (.goto (-24), 3) := by decide +kernel
theorem dX11_greatest_64 : decode cX11_greatest 64 = .ok (.aload_n 0, 1) := by decide +kernel
theorem dX11_greatest_65 : decode cX11_greatest 65 = .ok (.sipush 3144, 3) := by decide +kernel
theorem dX11_greatest_68 : decode cX11_greatest 68 = .ok (.invokevirtual 364, 3) := by decide +kernel
theorem dX11_greatest_71 : decode cX11_greatest 71 = .ok (.aload_n 0, 1) := by decide +kernel
theorem dX11_greatest_72 : decode cX11_greatest 72 = .ok (.iload_n 3, 1) := by decide +kernel
theorem dX11_greatest_73 : decode cX11_greatest 73 = .ok (.invokevirtual 94, 3) := by decide +kernel
theorem dX11_greatest_76 : decode cX11_greatest 76 = .ok (.ireturn, 1) := by decide +kernel
theorem dX11_firstDrowned_0 : decode cX11_firstDrowned 0 = .ok (.iconst 0, 1) := by decide +kernel
theorem dX11_firstDrowned_1 : decode cX11_firstDrowned 1 = .ok (.istore_n 1, 1) := by decide +kernel
theorem dX11_firstDrowned_2 : decode cX11_firstDrowned 2 = .ok (.aload_n 0, 1) := by decide +kernel
theorem dX11_firstDrowned_3 : decode cX11_firstDrowned 3 = .ok (.sipush 3144, 3) := by decide +kernel
theorem dX11_firstDrowned_6 : decode cX11_firstDrowned 6 = .ok (.invokevirtual 361, 3) := by decide +kernel
theorem dX11_firstDrowned_9 : decode cX11_firstDrowned 9 = .ok (.iconst 0, 1) := by decide +kernel
theorem dX11_firstDrowned_10 : decode cX11_firstDrowned 10 = .ok (.istore_n 2, 1) := by decide +kernel
theorem dX11_firstDrowned_11 : decode cX11_firstDrowned 11 = .ok (.iload_n 2, 1) := by decide +kernel
theorem dX11_firstDrowned_12 : decode cX11_firstDrowned 12 = .ok (.bipush 99, 2) := by decide +kernel
theorem dX11_firstDrowned_14 : decode cX11_firstDrowned 14 = .ok (.if_icmp .ge 18, 3) := by decide +kernel
theorem dX11_firstDrowned_17 : decode cX11_firstDrowned 17 = .ok (.iload_n 1, 1) := by decide +kernel
theorem dX11_firstDrowned_18 : decode cX11_firstDrowned 18 = .ok (.ifCond .ne 14, 3) := by decide +kernel
theorem dX11_firstDrowned_21 : decode cX11_firstDrowned 21 = .ok (.aload_n 0, 1) := by decide +kernel
theorem dX11_firstDrowned_22 : decode cX11_firstDrowned 22 = .ok (.invokevirtual 332, 3) := by decide +kernel
theorem dX11_firstDrowned_25 : decode cX11_firstDrowned 25 = .ok (.istore_n 1, 1) := by decide +kernel
theorem dX11_firstDrowned_26 : decode cX11_firstDrowned 26 = .ok (.iinc 2 1, 3) := by decide +kernel
theorem dX11_firstDrowned_29 : decode cX11_firstDrowned 29 = .ok (.goto (-18), 3) := by decide +kernel
theorem dX11_firstDrowned_32 : decode cX11_firstDrowned 32 = .ok (.aload_n 0, 1) := by decide +kernel
theorem dX11_firstDrowned_33 : decode cX11_firstDrowned 33 = .ok (.sipush 3144, 3) := by decide +kernel
theorem dX11_firstDrowned_36 : decode cX11_firstDrowned 36 = .ok (.invokevirtual 364, 3) := by decide +kernel
theorem dX11_firstDrowned_39 : decode cX11_firstDrowned 39 = .ok (.iconst 0, 1) := by decide +kernel
theorem dX11_firstDrowned_40 : decode cX11_firstDrowned 40 = .ok (.istore_n 2, 1) := by decide +kernel
theorem dX11_firstDrowned_41 : decode cX11_firstDrowned 41 = .ok (.iload_n 1, 1) := by decide +kernel
theorem dX11_firstDrowned_42 : decode cX11_firstDrowned 42 = .ok (.ifCond .eq 18, 3) := by decide +kernel
theorem dX11_firstDrowned_45 : decode cX11_firstDrowned 45 = .ok (.aload_n 0, 1) := by decide +kernel
theorem dX11_firstDrowned_46 : decode cX11_firstDrowned 46 = .ok (.iload_n 1, 1) := by decide +kernel
theorem dX11_firstDrowned_47 : decode cX11_firstDrowned 47 = .ok (.iload_n 2, 1) := by decide +kernel
theorem dX11_firstDrowned_48 : decode cX11_firstDrowned 48 = .ok (.invokevirtual 275, 3) := by decide +kernel
theorem dX11_firstDrowned_51 : decode cX11_firstDrowned 51 = .ok (.ifCond .ne 9, 3) := by decide +kernel
theorem dX11_firstDrowned_54 : decode cX11_firstDrowned 54 = .ok (.iinc 2 1, 3) := by decide +kernel
theorem dX11_firstDrowned_57 : decode cX11_firstDrowned 57 = .ok (.goto (-16), 3) := by decide +kernel
theorem dX11_firstDrowned_60 : decode cX11_firstDrowned 60 = .ok (.iload_n 1, 1) := by decide +kernel
theorem dX11_firstDrowned_61 : decode cX11_firstDrowned 61 = .ok (.ifCond .ne 12, 3) := by decide +kernel
theorem dX11_firstDrowned_64 : decode cX11_firstDrowned 64 = .ok (.aload_n 0, 1) := by decide +kernel
theorem dX11_firstDrowned_65 : decode cX11_firstDrowned 65 = .ok (.bipush 6, 2) := by decide +kernel
theorem dX11_firstDrowned_67 : decode cX11_firstDrowned 67 = .ok (.invokevirtual 90, 3) := by decide +kernel
theorem dX11_firstDrowned_70 : decode cX11_firstDrowned 70 = .ok (.goto 8, 3) := by decide +kernel
theorem dX11_firstDrowned_73 : decode cX11_firstDrowned 73 = .ok (.aload_n 0, 1) := by decide +kernel
theorem dX11_firstDrowned_74 : decode cX11_firstDrowned 74 = .ok (.iload_n 2, 1) := by decide +kernel
theorem dX11_firstDrowned_75 : decode cX11_firstDrowned 75 = .ok (.invokevirtual 94, 3) := by decide +kernel
theorem dX11_firstDrowned_78 : decode cX11_firstDrowned 78 = .ok (.ireturn, 1) := by decide +kernel
theorem dX11_bestHour_0 : decode cX11_bestHour 0 = .ok (.aload_n 0, 1) := by decide +kernel
theorem dX11_bestHour_1 : decode cX11_bestHour 1 = .ok (.iload_n 1, 1) := by decide +kernel
theorem dX11_bestHour_2 : decode cX11_bestHour 2 = .ok (.invokevirtual 305, 3) := by decide +kernel
theorem dX11_bestHour_5 : decode cX11_bestHour 5 = .ok (.ifCond .ne 9, 3) := by decide +kernel
theorem dX11_bestHour_8 : decode cX11_bestHour 8 = .ok (.aload_n 0, 1) := by decide +kernel
theorem dX11_bestHour_9 : decode cX11_bestHour 9 = .ok (.iconst 1, 1) := by decide +kernel
theorem dX11_bestHour_10 : decode cX11_bestHour 10 = .ok (.invokevirtual 90, 3) := by decide +kernel
theorem dX11_bestHour_13 : decode cX11_bestHour 13 = .ok (.ireturn, 1) := by decide +kernel
theorem dX11_bestHour_14 : decode cX11_bestHour 14 = .ok (.iconst (-1), 1) := by decide +kernel
theorem dX11_bestHour_15 : decode cX11_bestHour 15 = .ok (.istore_n 2, 1) := by decide +kernel
theorem dX11_bestHour_16 : decode cX11_bestHour 16 = .ok (.ldc_w 385, 3) := by decide +kernel
theorem dX11_bestHour_19 : decode cX11_bestHour 19 = .ok (.istore_n 3, 1) := by decide +kernel
theorem dX11_bestHour_20 : decode cX11_bestHour 20 = .ok (.aload_n 0, 1) := by decide +kernel
theorem dX11_bestHour_21 : decode cX11_bestHour 21 = .ok (.sipush 3144, 3) := by decide +kernel
theorem dX11_bestHour_24 : decode cX11_bestHour 24 = .ok (.invokevirtual 361, 3) := by decide +kernel
theorem dX11_bestHour_27 : decode cX11_bestHour 27 = .ok (.iconst 0, 1) := by decide +kernel
theorem dX11_bestHour_28 : decode cX11_bestHour 28 = .ok (.istore 4, 2) := by decide +kernel
theorem dX11_bestHour_30 : decode cX11_bestHour 30 = .ok (.iload 4, 2) := by decide +kernel
theorem dX11_bestHour_32 : decode cX11_bestHour 32 = .ok (.bipush 12, 2) := by decide +kernel
theorem dX11_bestHour_34 : decode cX11_bestHour 34 = .ok (.if_icmp .ge 84, 3) := by decide +kernel
theorem dX11_bestHour_37 : decode cX11_bestHour 37 = .ok (.iconst 0, 1) := by decide +kernel
theorem dX11_bestHour_38 : decode cX11_bestHour 38 = .ok (.istore 5, 2) := by decide +kernel
theorem dX11_bestHour_40 : decode cX11_bestHour 40 = .ok (.iload 5, 2) := by decide +kernel
theorem dX11_bestHour_42 : decode cX11_bestHour 42 = .ok (.bipush 12, 2) := by decide +kernel
theorem dX11_bestHour_44 : decode cX11_bestHour 44 = .ok (.if_icmp .ge 40, 3) := by decide +kernel
theorem dX11_bestHour_47 : decode cX11_bestHour 47 = .ok (.aload_n 0, 1) := by decide +kernel
theorem dX11_bestHour_48 : decode cX11_bestHour 48 = .ok (.getfield 7, 3) := by decide +kernel
theorem dX11_bestHour_51 : decode cX11_bestHour 51 = .ok (.iload_n 1, 1) := by decide +kernel
theorem dX11_bestHour_52 : decode cX11_bestHour 52 = .ok (.invokestatic 260, 3) := by decide +kernel
theorem dX11_bestHour_55 : decode cX11_bestHour 55 = .ok (.bipush 6, 2) := by decide +kernel
theorem dX11_bestHour_57 : decode cX11_bestHour 57 = .ok (.iadd, 1) := by decide +kernel
theorem dX11_bestHour_58 : decode cX11_bestHour 58 = .ok (.aload_n 0, 1) := by decide +kernel
theorem dX11_bestHour_59 : decode cX11_bestHour 59 = .ok (.invokevirtual 266, 3) := by decide +kernel
theorem dX11_bestHour_62 : decode cX11_bestHour 62 = .ok (.iload 4, 2) := by decide +kernel
theorem dX11_bestHour_64 : decode cX11_bestHour 64 = .ok (.if_icmp .ne 7, 3) := by decide +kernel
theorem dX11_bestHour_67 : decode cX11_bestHour 67 = .ok (.iconst 1, 1) := by decide +kernel
theorem dX11_bestHour_68 : decode cX11_bestHour 68 = .ok (.goto 4, 3) := by decide +kernel
theorem dX11_bestHour_71 : decode cX11_bestHour 71 = .ok (.iconst 0, 1) := by decide +kernel
theorem dX11_bestHour_72 : decode cX11_bestHour 72 = .ok (.iastore, 1) := by decide +kernel
theorem dX11_bestHour_73 : decode cX11_bestHour 73 = .ok (.aload_n 0, 1) := by decide +kernel
theorem dX11_bestHour_74 : decode cX11_bestHour 74 = .ok (.invokevirtual 332, 3) := by decide +kernel
theorem dX11_bestHour_77 : decode cX11_bestHour 77 = .ok (.pop, 1) := by decide +kernel
theorem dX11_bestHour_78 : decode cX11_bestHour 78 = .ok (.iinc 5 1, 3) := by decide +kernel
theorem dX11_bestHour_81 : decode cX11_bestHour 81 = .ok (.goto (-41), 3) := by decide +kernel
theorem dX11_bestHour_84 : decode cX11_bestHour 84 = .ok (.aload_n 0, 1) := by decide +kernel
theorem dX11_bestHour_85 : decode cX11_bestHour 85 = .ok (.invokevirtual 296, 3) := by decide +kernel
theorem dX11_bestHour_88 : decode cX11_bestHour 88 = .ok (.istore 5, 2) := by decide +kernel
theorem dX11_bestHour_90 : decode cX11_bestHour 90 = .ok (.aload_n 0, 1) := by decide +kernel
theorem dX11_bestHour_91 : decode cX11_bestHour 91 = .ok (.sipush 3144, 3) := by decide +kernel
theorem dX11_bestHour_94 : decode cX11_bestHour 94 = .ok (.invokevirtual 364, 3) := by decide +kernel
theorem dX11_bestHour_97 : decode cX11_bestHour 97 = .ok (.iload 5, 2) := by decide +kernel
theorem dX11_bestHour_99 : decode cX11_bestHour 99 = .ok (.iload_n 3, 1) := by decide +kernel
theorem dX11_bestHour_100 : decode cX11_bestHour 100 = .ok (.if_icmp .lt 6, 3) := by decide +kernel
theorem dX11_bestHour_103 : decode cX11_bestHour 103 = .ok (.goto 9, 3) := by decide +kernel
theorem dX11_bestHour_106 : decode cX11_bestHour 106 = .ok (.iload 5, 2) := by decide +kernel
theorem dX11_bestHour_108 : decode cX11_bestHour 108 = .ok (.istore_n 3, 1) := by decide +kernel
theorem dX11_bestHour_109 : decode cX11_bestHour 109 = .ok (.iload 4, 2) := by decide +kernel
theorem dX11_bestHour_111 : decode cX11_bestHour 111 = .ok (.istore_n 2, 1) := by decide +kernel
theorem dX11_bestHour_112 : decode cX11_bestHour 112 = .ok (.iinc 4 1, 3) := by decide +kernel
theorem dX11_bestHour_115 : decode cX11_bestHour 115 = .ok (.goto (-85), 3) := by decide +kernel
theorem dX11_bestHour_118 : decode cX11_bestHour 118 = .ok (.aload_n 0, 1) := by decide +kernel
theorem dX11_bestHour_119 : decode cX11_bestHour 119 = .ok (.iload_n 2, 1) := by decide +kernel
theorem dX11_bestHour_120 : decode cX11_bestHour 120 = .ok (.invokevirtual 94, 3) := by decide +kernel
theorem dX11_bestHour_123 : decode cX11_bestHour 123 = .ok (.ireturn, 1) := by decide +kernel
theorem dX11_pumpFor_0 : decode cX11_pumpFor 0 = .ok (.aload_n 0, 1) := by decide +kernel
theorem dX11_pumpFor_1 : decode cX11_pumpFor 1 = .ok (.iload_n 1, 1) := by decide +kernel
theorem dX11_pumpFor_2 : decode cX11_pumpFor 2 = .ok (.invokevirtual 302, 3) := by decide +kernel
theorem dX11_pumpFor_5 : decode cX11_pumpFor 5 = .ok (.ifCond .ne 9, 3) := by decide +kernel
theorem dX11_pumpFor_8 : decode cX11_pumpFor 8 = .ok (.aload_n 0, 1) := by decide +kernel
theorem dX11_pumpFor_9 : decode cX11_pumpFor 9 = .ok (.iconst 1, 1) := by decide +kernel
theorem dX11_pumpFor_10 : decode cX11_pumpFor 10 = .ok (.invokevirtual 90, 3) := by decide +kernel
theorem dX11_pumpFor_13 : decode cX11_pumpFor 13 = .ok (.ireturn, 1) := by decide +kernel
theorem dX11_pumpFor_14 : decode cX11_pumpFor 14 = .ok (.aload_n 0, 1) := by decide +kernel
theorem dX11_pumpFor_15 : decode cX11_pumpFor 15 = .ok (.sipush 3144, 3) := by decide +kernel
theorem dX11_pumpFor_18 : decode cX11_pumpFor 18 = .ok (.invokevirtual 361, 3) := by decide +kernel
theorem dX11_pumpFor_21 : decode cX11_pumpFor 21 = .ok (.iconst (-1), 1) := by decide +kernel
theorem dX11_pumpFor_22 : decode cX11_pumpFor 22 = .ok (.istore_n 2, 1) := by decide +kernel
theorem dX11_pumpFor_23 : decode cX11_pumpFor 23 = .ok (.iconst 0, 1) := by decide +kernel
theorem dX11_pumpFor_24 : decode cX11_pumpFor 24 = .ok (.istore_n 3, 1) := by decide +kernel
theorem dX11_pumpFor_25 : decode cX11_pumpFor 25 = .ok (.iload_n 3, 1) := by decide +kernel
theorem dX11_pumpFor_26 : decode cX11_pumpFor 26 = .ok (.bipush 100, 2) := by decide +kernel
theorem dX11_pumpFor_28 : decode cX11_pumpFor 28 = .ok (.if_icmp .ge 51, 3) := by decide +kernel
theorem dX11_pumpFor_31 : decode cX11_pumpFor 31 = .ok (.iload_n 2, 1) := by decide +kernel
theorem dX11_pumpFor_32 : decode cX11_pumpFor 32 = .ok (.iconst (-1), 1) := by decide +kernel
theorem dX11_pumpFor_33 : decode cX11_pumpFor 33 = .ok (.if_icmp .ne 46, 3) := by decide +kernel
theorem dX11_pumpFor_36 : decode cX11_pumpFor 36 = .ok (.aload_n 0, 1) := by decide +kernel
theorem dX11_pumpFor_37 : decode cX11_pumpFor 37 = .ok (.getfield 7, 3) := by decide +kernel
theorem dX11_pumpFor_40 : decode cX11_pumpFor 40 = .ok (.iload_n 1, 1) := by decide +kernel
theorem dX11_pumpFor_41 : decode cX11_pumpFor 41 = .ok (.invokestatic 257, 3) := by decide +kernel
theorem dX11_pumpFor_44 : decode cX11_pumpFor 44 = .ok (.iconst 3, 1) := by decide +kernel
theorem dX11_pumpFor_45 : decode cX11_pumpFor 45 = .ok (.iadd, 1) := by decide +kernel
theorem dX11_pumpFor_46 : decode cX11_pumpFor 46 = .ok (.iload_n 3, 1) := by decide +kernel
theorem dX11_pumpFor_47 : decode cX11_pumpFor 47 = .ok (.iastore, 1) := by decide +kernel
theorem dX11_pumpFor_48 : decode cX11_pumpFor 48 = .ok (.aload_n 0, 1) := by decide +kernel
theorem dX11_pumpFor_49 : decode cX11_pumpFor 49 = .ok (.bipush 24, 2) := by decide +kernel
theorem dX11_pumpFor_51 : decode cX11_pumpFor 51 = .ok (.invokevirtual 341, 3) := by decide +kernel
theorem dX11_pumpFor_54 : decode cX11_pumpFor 54 = .ok (.pop, 1) := by decide +kernel
theorem dX11_pumpFor_55 : decode cX11_pumpFor 55 = .ok (.aload_n 0, 1) := by decide +kernel
theorem dX11_pumpFor_56 : decode cX11_pumpFor 56 = .ok (.iload_n 1, 1) := by decide +kernel
theorem dX11_pumpFor_57 : decode cX11_pumpFor 57 = .ok (.iconst 5, 1) := by decide +kernel
theorem dX11_pumpFor_58 : decode cX11_pumpFor 58 = .ok (.invokevirtual 263, 3) := by decide +kernel
theorem dX11_pumpFor_61 : decode cX11_pumpFor 61 = .ok (.ifCond .ne 5, 3) := by decide +kernel
theorem dX11_pumpFor_64 : decode cX11_pumpFor 64 = .ok (.iload_n 3, 1) := by decide +kernel
theorem dX11_pumpFor_65 : decode cX11_pumpFor 65 = .ok (.istore_n 2, 1) := by decide +kernel
theorem dX11_pumpFor_66 : decode cX11_pumpFor 66 = .ok (.aload_n 0, 1) := by decide +kernel
theorem dX11_pumpFor_67 : decode cX11_pumpFor 67 = .ok (.sipush 3144, 3) := by decide +kernel
theorem dX11_pumpFor_70 : decode cX11_pumpFor 70 = .ok (.invokevirtual 364, 3) := by decide +kernel
theorem dX11_pumpFor_73 : decode cX11_pumpFor 73 = .ok (.iinc 3 1, 3) := by decide +kernel
theorem dX11_pumpFor_76 : decode cX11_pumpFor 76 = .ok (.goto (-51), 3) := by decide +kernel
theorem dX11_pumpFor_79 : decode cX11_pumpFor 79 = .ok (.aload_n 0, 1) := by decide +kernel
theorem dX11_pumpFor_80 : decode cX11_pumpFor 80 = .ok (.iload_n 2, 1) := by decide +kernel
theorem dX11_pumpFor_81 : decode cX11_pumpFor 81 = .ok (.invokevirtual 317, 3) := by decide +kernel
theorem dX11_pumpFor_84 : decode cX11_pumpFor 84 = .ok (.ireturn, 1) := by decide +kernel
theorem dX11_pumpAt_0 : decode cX11_pumpAt 0 = .ok (.iload_n 1, 1) := by decide +kernel
theorem dX11_pumpAt_1 : decode cX11_pumpAt 1 = .ok (.i2l, 1) := by decide +kernel
theorem dX11_pumpAt_2 : decode cX11_pumpAt 2 = .ok (.lconst 1, 1) := by decide +kernel
theorem dX11_pumpAt_3 : decode cX11_pumpAt 3 = .ok (.ldc2_w 335, 3) := by decide +kernel
theorem dX11_pumpAt_6 : decode cX11_pumpAt 6 = .ok (.invokestatic 337, 3) := by decide +kernel
theorem dX11_pumpAt_9 : decode cX11_pumpAt 9 = .ok (.ifCond .ne 9, 3) := by decide +kernel
theorem dX11_pumpAt_12 : decode cX11_pumpAt 12 = .ok (.aload_n 0, 1) := by decide +kernel
theorem dX11_pumpAt_13 : decode cX11_pumpAt 13 = .ok (.iconst 1, 1) := by decide +kernel
theorem dX11_pumpAt_14 : decode cX11_pumpAt 14 = .ok (.invokevirtual 90, 3) := by decide +kernel
theorem dX11_pumpAt_17 : decode cX11_pumpAt 17 = .ok (.ireturn, 1) := by decide +kernel
theorem dX11_pumpAt_18 : decode cX11_pumpAt 18 = .ok (.iconst (-1), 1) := by decide +kernel
theorem dX11_pumpAt_19 : decode cX11_pumpAt 19 = .ok (.istore_n 2, 1) := by decide +kernel
theorem dX11_pumpAt_20 : decode cX11_pumpAt 20 = .ok (.ldc_w 385, 3) := by decide +kernel
theorem dX11_pumpAt_23 : decode cX11_pumpAt 23 = .ok (.istore_n 3, 1) := by decide +kernel
theorem dX11_pumpAt_24 : decode cX11_pumpAt 24 = .ok (.iconst 0, 1) := by decide +kernel
theorem dX11_pumpAt_25 : decode cX11_pumpAt 25 = .ok (.istore 4, 2) := by decide +kernel
theorem dX11_pumpAt_27 : decode cX11_pumpAt 27 = .ok (.iload 4, 2) := by decide +kernel
theorem dX11_pumpAt_29 : decode cX11_pumpAt 29 = .ok (.aload_n 0, 1) := by decide +kernel
theorem dX11_pumpAt_30 : decode cX11_pumpAt 30 = .ok (.getfield 7, 3) := by decide +kernel
theorem dX11_pumpAt_33 : decode cX11_pumpAt 33 = .ok (.iconst 0, 1) := by decide +kernel
theorem dX11_pumpAt_34 : decode cX11_pumpAt 34 = .ok (.iaload, 1) := by decide +kernel
theorem dX11_pumpAt_35 : decode cX11_pumpAt 35 = .ok (.if_icmp .ge 77, 3) := by decide +kernel
theorem dX11_pumpAt_38 : decode cX11_pumpAt 38 = .ok (.aload_n 0, 1) := by decide +kernel
theorem dX11_pumpAt_39 : decode cX11_pumpAt 39 = .ok (.iload 4, 2) := by decide +kernel
theorem dX11_pumpAt_41 : decode cX11_pumpAt 41 = .ok (.iconst 3, 1) := by decide +kernel
theorem dX11_pumpAt_42 : decode cX11_pumpAt 42 = .ok (.invokevirtual 263, 3) := by decide +kernel
theorem dX11_pumpAt_45 : decode cX11_pumpAt 45 = .ok (.istore 5, 2) := by decide +kernel
theorem dX11_pumpAt_47 : decode cX11_pumpAt 47 = .ok (.aload_n 0, 1) := by decide +kernel
theorem dX11_pumpAt_48 : decode cX11_pumpAt 48 = .ok (.getfield 7, 3) := by decide +kernel
theorem dX11_pumpAt_51 : decode cX11_pumpAt 51 = .ok (.iload 4, 2) := by decide +kernel
theorem dX11_pumpAt_53 : decode cX11_pumpAt 53 = .ok (.invokestatic 257, 3) := by decide +kernel
theorem dX11_pumpAt_56 : decode cX11_pumpAt 56 = .ok (.iconst 3, 1) := by decide +kernel
theorem dX11_pumpAt_57 : decode cX11_pumpAt 57 = .ok (.iadd, 1) := by decide +kernel
theorem dX11_pumpAt_58 : decode cX11_pumpAt 58 = .ok (.bipush 99, 2) := by decide +kernel
theorem dX11_pumpAt_60 : decode cX11_pumpAt 60 = .ok (.iload 5, 2) := by decide +kernel
theorem dX11_pumpAt_62 : decode cX11_pumpAt 62 = .ok (.iload_n 1, 1) := by decide +kernel
theorem dX11_pumpAt_63 : decode cX11_pumpAt 63 = .ok (.iadd, 1) := by decide +kernel
theorem dX11_pumpAt_64 : decode cX11_pumpAt 64 = .ok (.invokestatic 151, 3) := by decide +kernel
theorem dX11_pumpAt_67 : decode cX11_pumpAt 67 = .ok (.iastore, 1) := by decide +kernel
theorem dX11_pumpAt_68 : decode cX11_pumpAt 68 = .ok (.aload_n 0, 1) := by decide +kernel
theorem dX11_pumpAt_69 : decode cX11_pumpAt 69 = .ok (.iconst (-1), 1) := by decide +kernel
theorem dX11_pumpAt_70 : decode cX11_pumpAt 70 = .ok (.bipush 12, 2) := by decide +kernel
theorem dX11_pumpAt_72 : decode cX11_pumpAt 72 = .ok (.invokevirtual 370, 3) := by decide +kernel
theorem dX11_pumpAt_75 : decode cX11_pumpAt 75 = .ok (.istore 6, 2) := by decide +kernel
theorem dX11_pumpAt_77 : decode cX11_pumpAt 77 = .ok (.aload_n 0, 1) := by decide +kernel
theorem dX11_pumpAt_78 : decode cX11_pumpAt 78 = .ok (.getfield 7, 3) := by decide +kernel
theorem dX11_pumpAt_81 : decode cX11_pumpAt 81 = .ok (.iload 4, 2) := by decide +kernel
theorem dX11_pumpAt_83 : decode cX11_pumpAt 83 = .ok (.invokestatic 257, 3) := by decide +kernel
theorem dX11_pumpAt_86 : decode cX11_pumpAt 86 = .ok (.iconst 3, 1) := by decide +kernel
theorem dX11_pumpAt_87 : decode cX11_pumpAt 87 = .ok (.iadd, 1) := by decide +kernel
theorem dX11_pumpAt_88 : decode cX11_pumpAt 88 = .ok (.iload 5, 2) := by decide +kernel
theorem dX11_pumpAt_90 : decode cX11_pumpAt 90 = .ok (.iastore, 1) := by decide +kernel
theorem dX11_pumpAt_91 : decode cX11_pumpAt 91 = .ok (.iload 6, 2) := by decide +kernel
theorem dX11_pumpAt_93 : decode cX11_pumpAt 93 = .ok (.iload_n 3, 1) := by decide +kernel
theorem dX11_pumpAt_94 : decode cX11_pumpAt 94 = .ok (.if_icmp .lt 6, 3) := by decide +kernel
theorem dX11_pumpAt_97 : decode cX11_pumpAt 97 = .ok (.goto 9, 3) := by decide +kernel
theorem dX11_pumpAt_100 : decode cX11_pumpAt 100 = .ok (.iload 6, 2) := by decide +kernel
theorem dX11_pumpAt_102 : decode cX11_pumpAt 102 = .ok (.istore_n 3, 1) := by decide +kernel
theorem dX11_pumpAt_103 : decode cX11_pumpAt 103 = .ok (.iload 4, 2) := by decide +kernel
theorem dX11_pumpAt_105 : decode cX11_pumpAt 105 = .ok (.istore_n 2, 1) := by decide +kernel
theorem dX11_pumpAt_106 : decode cX11_pumpAt 106 = .ok (.iinc 4 1, 3) := by decide +kernel
theorem dX11_pumpAt_109 : decode cX11_pumpAt 109 = .ok (.goto (-82), 3) := by decide +kernel
theorem dX11_pumpAt_112 : decode cX11_pumpAt 112 = .ok (.aload_n 0, 1) := by decide +kernel
theorem dX11_pumpAt_113 : decode cX11_pumpAt 113 = .ok (.iload_n 2, 1) := by decide +kernel
theorem dX11_pumpAt_114 : decode cX11_pumpAt 114 = .ok (.invokevirtual 317, 3) := by decide +kernel
theorem dX11_pumpAt_117 : decode cX11_pumpAt 117 = .ok (.ireturn, 1) := by decide +kernel
theorem dX11_waterWalled_0 : decode cX11_waterWalled 0 = .ok (.aload_n 0, 1) := by decide +kernel
theorem dX11_waterWalled_1 : decode cX11_waterWalled 1 = .ok (.iload_n 1, 1) := by decide +kernel
theorem dX11_waterWalled_2 : decode cX11_waterWalled 2 = .ok (.bipush 7, 2) := by decide +kernel
theorem dX11_waterWalled_4 : decode cX11_waterWalled 4 = .ok (.invokevirtual 272, 3) := by decide +kernel
theorem dX11_waterWalled_7 : decode cX11_waterWalled 7 = .ok (.istore_n 3, 1) := by decide +kernel
theorem dX11_waterWalled_8 : decode cX11_waterWalled 8 = .ok (.aload_n 0, 1) := by decide +kernel
theorem dX11_waterWalled_9 : decode cX11_waterWalled 9 = .ok (.iload_n 2, 1) := by decide +kernel
theorem dX11_waterWalled_10 : decode cX11_waterWalled 10 = .ok (.bipush 7, 2) := by decide +kernel
theorem dX11_waterWalled_12 : decode cX11_waterWalled 12 = .ok (.invokevirtual 272, 3) := by decide +kernel
theorem dX11_waterWalled_15 : decode cX11_waterWalled 15 = .ok (.istore 4, 2) := by decide +kernel
theorem dX11_waterWalled_17 : decode cX11_waterWalled 17 = .ok (.aload_n 0, 1) := by decide +kernel
theorem dX11_waterWalled_18 : decode cX11_waterWalled 18 = .ok (.getfield 7, 3) := by decide +kernel
theorem dX11_waterWalled_21 : decode cX11_waterWalled 21 = .ok (.iload_n 1, 1) := by decide +kernel
theorem dX11_waterWalled_22 : decode cX11_waterWalled 22 = .ok (.invokestatic 260, 3) := by decide +kernel
theorem dX11_waterWalled_25 : decode cX11_waterWalled 25 = .ok (.bipush 7, 2) := by decide +kernel
theorem dX11_waterWalled_27 : decode cX11_waterWalled 27 = .ok (.iadd, 1) := by decide +kernel
theorem dX11_waterWalled_28 : decode cX11_waterWalled 28 = .ok (.iconst 1, 1) := by decide +kernel
theorem dX11_waterWalled_29 : decode cX11_waterWalled 29 = .ok (.iastore, 1) := by decide +kernel
theorem dX11_waterWalled_30 : decode cX11_waterWalled 30 = .ok (.aload_n 0, 1) := by decide +kernel
theorem dX11_waterWalled_31 : decode cX11_waterWalled 31 = .ok (.getfield 7, 3) := by decide +kernel
theorem dX11_waterWalled_34 : decode cX11_waterWalled 34 = .ok (.iload_n 2, 1) := by decide +kernel
theorem dX11_waterWalled_35 : decode cX11_waterWalled 35 = .ok (.invokestatic 260, 3) := by decide +kernel
theorem dX11_waterWalled_38 : decode cX11_waterWalled 38 = .ok (.bipush 7, 2) := by decide +kernel
theorem dX11_waterWalled_40 : decode cX11_waterWalled 40 = .ok (.iadd, 1) := by decide +kernel
theorem dX11_waterWalled_41 : decode cX11_waterWalled 41 = .ok (.iconst 1, 1) := by decide +kernel
theorem dX11_waterWalled_42 : decode cX11_waterWalled 42 = .ok (.iastore, 1) := by decide +kernel
theorem dX11_waterWalled_43 : decode cX11_waterWalled 43 = .ok (.aload_n 0, 1) := by decide +kernel
theorem dX11_waterWalled_44 : decode cX11_waterWalled 44 = .ok (.iconst (-1), 1) := by decide +kernel
theorem dX11_waterWalled_45 : decode cX11_waterWalled 45 = .ok (.bipush 12, 2) := by decide +kernel
theorem dX11_waterWalled_47 : decode cX11_waterWalled 47 = .ok (.invokevirtual 370, 3) := by decide +kernel
theorem dX11_waterWalled_50 : decode cX11_waterWalled 50 = .ok (.istore 5, 2) := by decide +kernel
theorem dX11_waterWalled_52 : decode cX11_waterWalled 52 = .ok (.aload_n 0, 1) := by decide +kernel
theorem dX11_waterWalled_53 : decode cX11_waterWalled 53 = .ok (.getfield 7, 3) := by decide +kernel
theorem dX11_waterWalled_56 : decode cX11_waterWalled 56 = .ok (.iload_n 2, 1) := by decide +kernel
theorem dX11_waterWalled_57 : decode cX11_waterWalled 57 = .ok (.invokestatic 260, 3) := by decide +kernel
theorem dX11_waterWalled_60 : decode cX11_waterWalled 60 = .ok (.bipush 7, 2) := by decide +kernel
theorem dX11_waterWalled_62 : decode cX11_waterWalled 62 = .ok (.iadd, 1) := by decide +kernel
theorem dX11_waterWalled_63 : decode cX11_waterWalled 63 = .ok (.iload 4, 2) := by decide +kernel
theorem dX11_waterWalled_65 : decode cX11_waterWalled 65 = .ok (.iastore, 1) := by decide +kernel
theorem dX11_waterWalled_66 : decode cX11_waterWalled 66 = .ok (.aload_n 0, 1) := by decide +kernel
theorem dX11_waterWalled_67 : decode cX11_waterWalled 67 = .ok (.getfield 7, 3) := by decide +kernel
theorem dX11_waterWalled_70 : decode cX11_waterWalled 70 = .ok (.iload_n 1, 1) := by decide +kernel
theorem dX11_waterWalled_71 : decode cX11_waterWalled 71 = .ok (.invokestatic 260, 3) := by decide +kernel
theorem dX11_waterWalled_74 : decode cX11_waterWalled 74 = .ok (.bipush 7, 2) := by decide +kernel
theorem dX11_waterWalled_76 : decode cX11_waterWalled 76 = .ok (.iadd, 1) := by decide +kernel
theorem dX11_waterWalled_77 : decode cX11_waterWalled 77 = .ok (.iload_n 3, 1) := by decide +kernel
theorem dX11_waterWalled_78 : decode cX11_waterWalled 78 = .ok (.iastore, 1) := by decide +kernel
theorem dX11_waterWalled_79 : decode cX11_waterWalled 79 = .ok (.iload 5, 2) := by decide +kernel
theorem dX11_waterWalled_81 : decode cX11_waterWalled 81 = .ok (.ireturn, 1) := by decide +kernel
theorem dX11_twoWalls_0 : decode cX11_twoWalls 0 = .ok (.iconst (-1), 1) := by decide +kernel
theorem dX11_twoWalls_1 : decode cX11_twoWalls 1 = .ok (.istore_n 1, 1) := by decide +kernel
theorem dX11_twoWalls_2 : decode cX11_twoWalls 2 = .ok (.ldc_w 385, 3) := by decide +kernel
theorem dX11_twoWalls_5 : decode cX11_twoWalls 5 = .ok (.istore_n 2, 1) := by decide +kernel
theorem dX11_twoWalls_6 : decode cX11_twoWalls 6 = .ok (.iconst 0, 1) := by decide +kernel
theorem dX11_twoWalls_7 : decode cX11_twoWalls 7 = .ok (.istore_n 3, 1) := by decide +kernel
theorem dX11_twoWalls_8 : decode cX11_twoWalls 8 = .ok (.iload_n 3, 1) := by decide +kernel
theorem dX11_twoWalls_9 : decode cX11_twoWalls 9 = .ok (.aload_n 0, 1) := by decide +kernel
theorem dX11_twoWalls_10 : decode cX11_twoWalls 10 = .ok (.getfield 7, 3) := by decide +kernel
theorem dX11_twoWalls_13 : decode cX11_twoWalls 13 = .ok (.iconst 1, 1) := by decide +kernel
theorem dX11_twoWalls_14 : decode cX11_twoWalls 14 = .ok (.iaload, 1) := by decide +kernel
theorem dX11_twoWalls_15 : decode cX11_twoWalls 15 = .ok (.if_icmp .ge 86, 3) := by decide +kernel
theorem dX11_twoWalls_18 : decode cX11_twoWalls 18 = .ok (.iload_n 3, 1) := by decide +kernel
theorem dX11_twoWalls_19 : decode cX11_twoWalls 19 = .ok (.iconst 1, 1) := by decide +kernel
theorem dX11_twoWalls_20 : decode cX11_twoWalls 20 = .ok (.iadd, 1) := by decide +kernel
theorem dX11_twoWalls_21 : decode cX11_twoWalls 21 = .ok (.istore 4, 2) := by decide +kernel
theorem dX11_twoWalls_23 : decode cX11_twoWalls 23 = .ok (.iload 4, 2) := by decide +kernel
theorem dX11_twoWalls_25 : decode cX11_twoWalls 25 = .ok (.aload_n 0, 1) := by decide +kernel
theorem dX11_twoWalls_26 : decode cX11_twoWalls 26 = .ok (.getfield 7, 3) := by decide +kernel
theorem dX11_twoWalls_29 : decode cX11_twoWalls 29 = .ok (.iconst 1, 1) := by decide +kernel
theorem dX11_twoWalls_30 : decode cX11_twoWalls 30 = .ok (.iaload, 1) := by decide +kernel
theorem dX11_twoWalls_31 : decode cX11_twoWalls 31 = .ok (.if_icmp .ge 64, 3) := by decide +kernel
theorem dX11_twoWalls_34 : decode cX11_twoWalls 34 = .ok (.aload_n 0, 1) := by decide +kernel
theorem dX11_twoWalls_35 : decode cX11_twoWalls 35 = .ok (.iload_n 3, 1) := by decide +kernel
theorem dX11_twoWalls_36 : decode cX11_twoWalls 36 = .ok (.bipush 7, 2) := by decide +kernel
theorem dX11_twoWalls_38 : decode cX11_twoWalls 38 = .ok (.invokevirtual 272, 3) := by decide +kernel
theorem dX11_twoWalls_41 : decode cX11_twoWalls 41 = .ok (.iconst 1, 1) := by decide +kernel
theorem dX11_twoWalls_42 : decode cX11_twoWalls 42 = .ok (.if_icmp .eq 47, 3) := by decide +kernel
theorem dX11_twoWalls_45 : decode cX11_twoWalls 45 = .ok (.aload_n 0, 1) := by decide +kernel
theorem dX11_twoWalls_46 : decode cX11_twoWalls 46 = .ok (.iload 4, 2) := by decide +kernel
theorem dX11_twoWalls_48 : decode cX11_twoWalls 48 = .ok (.bipush 7, 2) := by decide +kernel
theorem dX11_twoWalls_50 : decode cX11_twoWalls 50 = .ok (.invokevirtual 272, 3) := by decide +kernel
theorem dX11_twoWalls_53 : decode cX11_twoWalls 53 = .ok (.iconst 1, 1) := by decide +kernel
theorem dX11_twoWalls_54 : decode cX11_twoWalls 54 = .ok (.if_icmp .ne 6, 3) := by decide +kernel
theorem dX11_twoWalls_57 : decode cX11_twoWalls 57 = .ok (.goto 32, 3) := by decide +kernel
theorem dX11_twoWalls_60 : decode cX11_twoWalls 60 = .ok (.aload_n 0, 1) := by decide +kernel
theorem dX11_twoWalls_61 : decode cX11_twoWalls 61 = .ok (.iload_n 3, 1) := by decide +kernel
theorem dX11_twoWalls_62 : decode cX11_twoWalls 62 = .ok (.iload 4, 2) := by decide +kernel
theorem dX11_twoWalls_64 : decode cX11_twoWalls 64 = .ok (.invokevirtual 386, 3) := by decide +kernel
theorem dX11_twoWalls_67 : decode cX11_twoWalls 67 = .ok (.istore 5, 2) := by decide +kernel
theorem dX11_twoWalls_69 : decode cX11_twoWalls 69 = .ok (.iload 5, 2) := by decide +kernel
theorem dX11_twoWalls_71 : decode cX11_twoWalls 71 = .ok (.iload_n 2, 1) := by decide +kernel
theorem dX11_twoWalls_72 : decode cX11_twoWalls 72 = .ok (.if_icmp .lt 6, 3) := by decide +kernel
theorem dX11_twoWalls_75 : decode cX11_twoWalls 75 = .ok (.goto 14, 3) := by decide +kernel
theorem dX11_twoWalls_78 : decode cX11_twoWalls 78 = .ok (.iload 5, 2) := by decide +kernel
theorem dX11_twoWalls_80 : decode cX11_twoWalls 80 = .ok (.istore_n 2, 1) := by decide +kernel
theorem dX11_twoWalls_81 : decode cX11_twoWalls 81 = .ok (.bipush 10, 2) := by decide +kernel
theorem dX11_twoWalls_83 : decode cX11_twoWalls 83 = .ok (.iload_n 3, 1) := by decide +kernel
theorem dX11_twoWalls_84 : decode cX11_twoWalls 84 = .ok (.imul, 1) := by decide +kernel
theorem dX11_twoWalls_85 : decode cX11_twoWalls 85 = .ok (.iload 4, 2) := by decide +kernel
theorem dX11_twoWalls_87 : decode cX11_twoWalls 87 = .ok (.iadd, 1) := by decide +kernel
theorem dX11_twoWalls_88 : decode cX11_twoWalls 88 = .ok (.istore_n 1, 1) := by decide +kernel
theorem dX11_twoWalls_89 : decode cX11_twoWalls 89 = .ok (.iinc 4 1, 3) := by decide +kernel
theorem dX11_twoWalls_92 : decode cX11_twoWalls 92 = .ok (.goto (-69), 3) := by decide +kernel
theorem dX11_twoWalls_95 : decode cX11_twoWalls 95 = .ok (.iinc 3 1, 3) := by decide +kernel
theorem dX11_twoWalls_98 : decode cX11_twoWalls 98 = .ok (.goto (-90), 3) := by decide +kernel
theorem dX11_twoWalls_101 : decode cX11_twoWalls 101 = .ok (.aload_n 0, 1) := by decide +kernel
theorem dX11_twoWalls_102 : decode cX11_twoWalls 102 = .ok (.iload_n 1, 1) := by decide +kernel
theorem dX11_twoWalls_103 : decode cX11_twoWalls 103 = .ok (.invokevirtual 317, 3) := by decide +kernel
theorem dX11_twoWalls_106 : decode cX11_twoWalls 106 = .ok (.ireturn, 1) := by decide +kernel
theorem dX11_gain_0 : decode cX11_gain 0 = .ok (.aload_n 0, 1) := by decide +kernel
theorem dX11_gain_1 : decode cX11_gain 1 = .ok (.iload_n 1, 1) := by decide +kernel
theorem dX11_gain_2 : decode cX11_gain 2 = .ok (.invokevirtual 305, 3) := by decide +kernel
theorem dX11_gain_5 : decode cX11_gain 5 = .ok (.ifCond .eq 24, 3) := by decide +kernel
theorem dX11_gain_8 : decode cX11_gain 8 = .ok (.aload_n 0, 1) := by decide +kernel
theorem dX11_gain_9 : decode cX11_gain 9 = .ok (.aload_n 0, 1) := by decide +kernel
theorem dX11_gain_10 : decode cX11_gain 10 = .ok (.iconst (-1), 1) := by decide +kernel
theorem dX11_gain_11 : decode cX11_gain 11 = .ok (.bipush 12, 2) := by decide +kernel
theorem dX11_gain_13 : decode cX11_gain 13 = .ok (.invokevirtual 370, 3) := by decide +kernel
theorem dX11_gain_16 : decode cX11_gain 16 = .ok (.aload_n 0, 1) := by decide +kernel
theorem dX11_gain_17 : decode cX11_gain 17 = .ok (.iload_n 1, 1) := by decide +kernel
theorem dX11_gain_18 : decode cX11_gain 18 = .ok (.iload_n 1, 1) := by decide +kernel
theorem dX11_gain_19 : decode cX11_gain 19 = .ok (.invokevirtual 386, 3) := by decide +kernel
theorem dX11_gain_22 : decode cX11_gain 22 = .ok (.isub, 1) := by decide +kernel
theorem dX11_gain_23 : decode cX11_gain 23 = .ok (.invokevirtual 94, 3) := by decide +kernel
theorem dX11_gain_26 : decode cX11_gain 26 = .ok (.goto 8, 3) := by decide +kernel
theorem dX11_gain_29 : decode cX11_gain 29 = .ok (.aload_n 0, 1) := by decide +kernel
theorem dX11_gain_30 : decode cX11_gain 30 = .ok (.iconst 1, 1) := by decide +kernel
theorem dX11_gain_31 : decode cX11_gain 31 = .ok (.invokevirtual 90, 3) := by decide +kernel
theorem dX11_gain_34 : decode cX11_gain 34 = .ok (.ireturn, 1) := by decide +kernel
theorem dX11_bailFor_0 : decode cX11_bailFor 0 = .ok (.aload_n 0, 1) := by decide +kernel
theorem dX11_bailFor_1 : decode cX11_bailFor 1 = .ok (.iload_n 1, 1) := by decide +kernel
theorem dX11_bailFor_2 : decode cX11_bailFor 2 = .ok (.invokevirtual 302, 3) := by decide +kernel
theorem dX11_bailFor_5 : decode cX11_bailFor 5 = .ok (.ifCond .eq 15, 3) := by decide +kernel
theorem dX11_bailFor_8 : decode cX11_bailFor 8 = .ok (.iload_n 2, 1) := by decide +kernel
theorem dX11_bailFor_9 : decode cX11_bailFor 9 = .ok (.i2l, 1) := by decide +kernel
theorem dX11_bailFor_10 : decode cX11_bailFor 10 = .ok (.lconst 1, 1) := by decide +kernel
theorem dX11_bailFor_11 : decode cX11_bailFor 11 = .ok (.ldc2_w 389, 3) := by decide +kernel
theorem dX11_bailFor_14 : decode cX11_bailFor 14 = .ok (.invokestatic 337, 3) := by decide +kernel
theorem dX11_bailFor_17 : decode cX11_bailFor 17 = .ok (.ifCond .ne 9, 3) := by decide +kernel
theorem dX11_bailFor_20 : decode cX11_bailFor 20 = .ok (.aload_n 0, 1) := by decide +kernel
theorem dX11_bailFor_21 : decode cX11_bailFor 21 = .ok (.iconst 1, 1) := by decide +kernel
theorem dX11_bailFor_22 : decode cX11_bailFor 22 = .ok (.invokevirtual 90, 3) := by decide +kernel
theorem dX11_bailFor_25 : decode cX11_bailFor 25 = .ok (.ireturn, 1) := by decide +kernel
theorem dX11_bailFor_26 : decode cX11_bailFor 26 = .ok (.aload_n 0, 1) := by decide +kernel
theorem dX11_bailFor_27 : decode cX11_bailFor 27 = .ok (.sipush 3144, 3) := by decide +kernel
theorem dX11_bailFor_30 : decode cX11_bailFor 30 = .ok (.invokevirtual 361, 3) := by decide +kernel
theorem dX11_bailFor_33 : decode cX11_bailFor 33 = .ok (.aload_n 0, 1) := by decide +kernel
theorem dX11_bailFor_34 : decode cX11_bailFor 34 = .ok (.iload_n 1, 1) := by decide +kernel
theorem dX11_bailFor_35 : decode cX11_bailFor 35 = .ok (.iconst 4, 1) := by decide +kernel
theorem dX11_bailFor_36 : decode cX11_bailFor 36 = .ok (.invokevirtual 263, 3) := by decide +kernel
theorem dX11_bailFor_39 : decode cX11_bailFor 39 = .ok (.istore_n 3, 1) := by decide +kernel
theorem dX11_bailFor_40 : decode cX11_bailFor 40 = .ok (.iconst (-1), 1) := by decide +kernel
theorem dX11_bailFor_41 : decode cX11_bailFor 41 = .ok (.istore 4, 2) := by decide +kernel
theorem dX11_bailFor_43 : decode cX11_bailFor 43 = .ok (.iconst 0, 1) := by decide +kernel
theorem dX11_bailFor_44 : decode cX11_bailFor 44 = .ok (.istore 5, 2) := by decide +kernel
theorem dX11_bailFor_46 : decode cX11_bailFor 46 = .ok (.iload 5, 2) := by decide +kernel
theorem dX11_bailFor_48 : decode cX11_bailFor 48 = .ok (.iload_n 3, 1) := by decide +kernel
theorem dX11_bailFor_49 : decode cX11_bailFor 49 = .ok (.if_icmp .gt 56, 3) := by decide +kernel
theorem dX11_bailFor_52 : decode cX11_bailFor 52 = .ok (.iload 4, 2) := by decide +kernel
theorem dX11_bailFor_54 : decode cX11_bailFor 54 = .ok (.iconst (-1), 1) := by decide +kernel
theorem dX11_bailFor_55 : decode cX11_bailFor 55 = .ok (.if_icmp .ne 50, 3) := by decide +kernel
theorem dX11_bailFor_58 : decode cX11_bailFor 58 = .ok (.aload_n 0, 1) := by decide +kernel
theorem dX11_bailFor_59 : decode cX11_bailFor 59 = .ok (.getfield 7, 3) := by decide +kernel
theorem dX11_bailFor_62 : decode cX11_bailFor 62 = .ok (.iload_n 1, 1) := by decide +kernel
theorem dX11_bailFor_63 : decode cX11_bailFor 63 = .ok (.invokestatic 257, 3) := by decide +kernel
theorem dX11_bailFor_66 : decode cX11_bailFor 66 = .ok (.iconst 4, 1) := by decide +kernel
theorem dX11_bailFor_67 : decode cX11_bailFor 67 = .ok (.iadd, 1) := by decide +kernel
theorem dX11_bailFor_68 : decode cX11_bailFor 68 = .ok (.dup2, 1) := by decide +kernel
theorem dX11_bailFor_69 : decode cX11_bailFor 69 = .ok (.iaload, 1) := by decide +kernel
theorem dX11_bailFor_70 : decode cX11_bailFor 70 = .ok (.iload 5, 2) := by decide +kernel
theorem dX11_bailFor_72 : decode cX11_bailFor 72 = .ok (.isub, 1) := by decide +kernel
theorem dX11_bailFor_73 : decode cX11_bailFor 73 = .ok (.iastore, 1) := by decide +kernel
theorem dX11_bailFor_74 : decode cX11_bailFor 74 = .ok (.aload_n 0, 1) := by decide +kernel
theorem dX11_bailFor_75 : decode cX11_bailFor 75 = .ok (.iload_n 2, 1) := by decide +kernel
theorem dX11_bailFor_76 : decode cX11_bailFor 76 = .ok (.invokevirtual 341, 3) := by decide +kernel
theorem dX11_bailFor_79 : decode cX11_bailFor 79 = .ok (.pop, 1) := by decide +kernel
theorem dX11_bailFor_80 : decode cX11_bailFor 80 = .ok (.aload_n 0, 1) := by decide +kernel
theorem dX11_bailFor_81 : decode cX11_bailFor 81 = .ok (.iload_n 1, 1) := by decide +kernel
theorem dX11_bailFor_82 : decode cX11_bailFor 82 = .ok (.invokevirtual 269, 3) := by decide +kernel
theorem dX11_bailFor_85 : decode cX11_bailFor 85 = .ok (.ifCond .ne 7, 3) := by decide +kernel
theorem dX11_bailFor_88 : decode cX11_bailFor 88 = .ok (.iload 5, 2) := by decide +kernel
theorem dX11_bailFor_90 : decode cX11_bailFor 90 = .ok (.istore 4, 2) := by decide +kernel
theorem dX11_bailFor_92 : decode cX11_bailFor 92 = .ok (.aload_n 0, 1) := by decide +kernel
theorem dX11_bailFor_93 : decode cX11_bailFor 93 = .ok (.sipush 3144, 3) := by decide +kernel
theorem dX11_bailFor_96 : decode cX11_bailFor 96 = .ok (.invokevirtual 364, 3) := by decide +kernel
theorem dX11_bailFor_99 : decode cX11_bailFor 99 = .ok (.iinc 5 1, 3) := by decide +kernel
theorem dX11_bailFor_102 : decode cX11_bailFor 102 = .ok (.goto (-56), 3) := by decide +kernel
theorem dX11_bailFor_105 : decode cX11_bailFor 105 = .ok (.aload_n 0, 1) := by decide +kernel
theorem dX11_bailFor_106 : decode cX11_bailFor 106 = .ok (.iload 4, 2) := by decide +kernel
theorem dX11_bailFor_108 : decode cX11_bailFor 108 = .ok (.invokevirtual 317, 3) := by decide +kernel
theorem dX11_bailFor_111 : decode cX11_bailFor 111 = .ok (.ireturn, 1) := by decide +kernel
theorem dX11_siegeOf_0 : decode cX11_siegeOf 0 = .ok (.aload_n 0, 1) := by decide +kernel
theorem dX11_siegeOf_1 : decode cX11_siegeOf 1 = .ok (.sipush 3144, 3) := by decide +kernel
theorem dX11_siegeOf_4 : decode cX11_siegeOf 4 = .ok (.invokevirtual 361, 3) := by decide +kernel
theorem dX11_siegeOf_7 : decode cX11_siegeOf 7 = .ok (.iconst 0, 1) := by decide +kernel
theorem dX11_siegeOf_8 : decode cX11_siegeOf 8 = .ok (.istore_n 2, 1) := by decide +kernel
theorem dX11_siegeOf_9 : decode cX11_siegeOf 9 = .ok (.iload_n 2, 1) := by decide +kernel
theorem dX11_siegeOf_10 : decode cX11_siegeOf 10 = .ok (.bipush 12, 2) := by decide +kernel
theorem dX11_siegeOf_12 : decode cX11_siegeOf 12 = .ok (.if_icmp .ge 20, 3) := by decide +kernel
theorem dX11_siegeOf_15 : decode cX11_siegeOf 15 = .ok (.aload_n 0, 1) := by decide +kernel
theorem dX11_siegeOf_16 : decode cX11_siegeOf 16 = .ok (.getfield 7, 3) := by decide +kernel
theorem dX11_siegeOf_19 : decode cX11_siegeOf 19 = .ok (.sipush 135, 3) := by decide +kernel
theorem dX11_siegeOf_22 : decode cX11_siegeOf 22 = .ok (.iload_n 2, 1) := by decide +kernel
theorem dX11_siegeOf_23 : decode cX11_siegeOf 23 = .ok (.iadd, 1) := by decide +kernel
theorem dX11_siegeOf_24 : decode cX11_siegeOf 24 = .ok (.iload_n 1, 1) := by decide +kernel
theorem dX11_siegeOf_25 : decode cX11_siegeOf 25 = .ok (.iastore, 1) := by decide +kernel
theorem dX11_siegeOf_26 : decode cX11_siegeOf 26 = .ok (.iinc 2 1, 3) := by decide +kernel
theorem dX11_siegeOf_29 : decode cX11_siegeOf 29 = .ok (.goto (-20), 3) := by decide +kernel
theorem dX11_siegeOf_32 : decode cX11_siegeOf 32 = .ok (.aload_n 0, 1) := by decide +kernel
theorem dX11_siegeOf_33 : decode cX11_siegeOf 33 = .ok (.bipush 12, 2) := by decide +kernel
theorem dX11_siegeOf_35 : decode cX11_siegeOf 35 = .ok (.invokevirtual 341, 3) := by decide +kernel
theorem dX11_siegeOf_38 : decode cX11_siegeOf 38 = .ok (.pop, 1) := by decide +kernel
theorem dX11_siegeOf_39 : decode cX11_siegeOf 39 = .ok (.aload_n 0, 1) := by decide +kernel
theorem dX11_siegeOf_40 : decode cX11_siegeOf 40 = .ok (.iconst 1, 1) := by decide +kernel
theorem dX11_siegeOf_41 : decode cX11_siegeOf 41 = .ok (.invokevirtual 299, 3) := by decide +kernel
theorem dX11_siegeOf_44 : decode cX11_siegeOf 44 = .ok (.istore_n 2, 1) := by decide +kernel
theorem dX11_siegeOf_45 : decode cX11_siegeOf 45 = .ok (.aload_n 0, 1) := by decide +kernel
theorem dX11_siegeOf_46 : decode cX11_siegeOf 46 = .ok (.sipush 3144, 3) := by decide +kernel
theorem dX11_siegeOf_49 : decode cX11_siegeOf 49 = .ok (.invokevirtual 364, 3) := by decide +kernel
theorem dX11_siegeOf_52 : decode cX11_siegeOf 52 = .ok (.iload_n 2, 1) := by decide +kernel
theorem dX11_siegeOf_53 : decode cX11_siegeOf 53 = .ok (.ireturn, 1) := by decide +kernel
theorem dX11_siege_0 : decode cX11_siege 0 = .ok (.iload_n 1, 1) := by decide +kernel
theorem dX11_siege_1 : decode cX11_siege 1 = .ok (.i2l, 1) := by decide +kernel
theorem dX11_siege_2 : decode cX11_siege 2 = .ok (.lconst 0, 1) := by decide +kernel
theorem dX11_siege_3 : decode cX11_siege 3 = .ok (.ldc2_w 335, 3) := by decide +kernel
theorem dX11_siege_6 : decode cX11_siege 6 = .ok (.invokestatic 337, 3) := by decide +kernel
theorem dX11_siege_9 : decode cX11_siege 9 = .ok (.ifCond .eq 15, 3) := by decide +kernel
theorem dX11_siege_12 : decode cX11_siege 12 = .ok (.aload_n 0, 1) := by decide +kernel
theorem dX11_siege_13 : decode cX11_siege 13 = .ok (.aload_n 0, 1) := by decide +kernel
theorem dX11_siege_14 : decode cX11_siege 14 = .ok (.iload_n 1, 1) := by decide +kernel
theorem dX11_siege_15 : decode cX11_siege 15 = .ok (.invokevirtual 391, 3) := by decide +kernel
theorem dX11_siege_18 : decode cX11_siege 18 = .ok (.invokevirtual 94, 3) := by decide +kernel
theorem dX11_siege_21 : decode cX11_siege 21 = .ok (.goto 8, 3) := by decide +kernel
theorem dX11_siege_24 : decode cX11_siege 24 = .ok (.aload_n 0, 1) := by decide +kernel
theorem dX11_siege_25 : decode cX11_siege 25 = .ok (.iconst 1, 1) := by decide +kernel
theorem dX11_siege_26 : decode cX11_siege 26 = .ok (.invokevirtual 90, 3) := by decide +kernel
theorem dX11_siege_29 : decode cX11_siege 29 = .ok (.ireturn, 1) := by decide +kernel
theorem dX11_borne_0 : decode cX11_borne 0 = .ok (.bipush 99, 2) := by decide +kernel
theorem dX11_borne_2 : decode cX11_borne 2 = .ok (.istore_n 1, 1) := by decide +kernel
theorem dX11_borne_3 : decode cX11_borne 3 = .ok (.iload_n 1, 1) := by decide +kernel
theorem dX11_borne_4 : decode cX11_borne 4 = .ok (.ifCond .lt 22, 3) := by decide +kernel
theorem dX11_borne_7 : decode cX11_borne 7 = .ok (.aload_n 0, 1) := by decide +kernel
theorem dX11_borne_8 : decode cX11_borne 8 = .ok (.iload_n 1, 1) := by decide +kernel
theorem dX11_borne_9 : decode cX11_borne 9 = .ok (.invokevirtual 391, 3) := by decide +kernel
theorem dX11_borne_12 : decode cX11_borne 12 = .ok (.aload_n 0, 1) := by decide +kernel
theorem dX11_borne_13 : decode cX11_borne 13 = .ok (.iconst 1, 1) := by decide +kernel
theorem dX11_borne_14 : decode cX11_borne 14 = .ok (.invokevirtual 299, 3) := by decide +kernel
theorem dX11_borne_17 : decode cX11_borne 17 = .ok (.if_icmp .eq 9, 3) := by decide +kernel
theorem dX11_borne_20 : decode cX11_borne 20 = .ok (.iinc 1 (-1), 3) := by decide +kernel
theorem dX11_borne_23 : decode cX11_borne 23 = .ok (.goto (-20), 3) := by decide +kernel
theorem dX11_borne_26 : decode cX11_borne 26 = .ok (.iload_n 1, 1) := by decide +kernel
theorem dX11_borne_27 : decode cX11_borne 27 = .ok (.ifCond .ge 12, 3) := by decide +kernel
theorem dX11_borne_30 : decode cX11_borne 30 = .ok (.aload_n 0, 1) := by decide +kernel
theorem dX11_borne_31 : decode cX11_borne 31 = .ok (.bipush 6, 2) := by decide +kernel
theorem dX11_borne_33 : decode cX11_borne 33 = .ok (.invokevirtual 90, 3) := by decide +kernel
theorem dX11_borne_36 : decode cX11_borne 36 = .ok (.goto 8, 3) := by decide +kernel
theorem dX11_borne_39 : decode cX11_borne 39 = .ok (.aload_n 0, 1) := by decide +kernel
theorem dX11_borne_40 : decode cX11_borne 40 = .ok (.iload_n 1, 1) := by decide +kernel
theorem dX11_borne_41 : decode cX11_borne 41 = .ok (.invokevirtual 94, 3) := by decide +kernel
theorem dX11_borne_44 : decode cX11_borne 44 = .ok (.ireturn, 1) := by decide +kernel
theorem dX11_keepOf_0 : decode cX11_keepOf 0 = .ok (.aload_n 0, 1) := by decide +kernel
theorem dX11_keepOf_1 : decode cX11_keepOf 1 = .ok (.iconst 4, 1) := by decide +kernel
theorem dX11_keepOf_2 : decode cX11_keepOf 2 = .ok (.invokevirtual 299, 3) := by decide +kernel
theorem dX11_keepOf_5 : decode cX11_keepOf 5 = .ok (.istore_n 2, 1) := by decide +kernel
theorem dX11_keepOf_6 : decode cX11_keepOf 6 = .ok (.iconst (-1), 1) := by decide +kernel
theorem dX11_keepOf_7 : decode cX11_keepOf 7 = .ok (.istore_n 3, 1) := by decide +kernel
theorem dX11_keepOf_8 : decode cX11_keepOf 8 = .ok (.iconst 0, 1) := by decide +kernel
theorem dX11_keepOf_9 : decode cX11_keepOf 9 = .ok (.istore 4, 2) := by decide +kernel
theorem dX11_keepOf_11 : decode cX11_keepOf 11 = .ok (.iload 4, 2) := by decide +kernel
theorem dX11_keepOf_13 : decode cX11_keepOf 13 = .ok (.iconst 1, 1) := by decide +kernel
theorem dX11_keepOf_14 : decode cX11_keepOf 14 = .ok (.aload_n 0, 1) := by decide +kernel
theorem dX11_keepOf_15 : decode cX11_keepOf 15 = .ok (.getfield 7, 3) := by decide +kernel
theorem dX11_keepOf_18 : decode cX11_keepOf 18 = .ok (.iconst 1, 1) := by decide +kernel
theorem dX11_keepOf_19 : decode cX11_keepOf 19 = .ok (.iaload, 1) := by decide +kernel
theorem dX11_keepOf_20 : decode cX11_keepOf 20 = .ok (.ishl, 1) := by decide +kernel
theorem dX11_keepOf_21 : decode cX11_keepOf 21 = .ok (.if_icmp .ge 56, 3) := by decide +kernel
theorem dX11_keepOf_24 : decode cX11_keepOf 24 = .ok (.iload 4, 2) := by decide +kernel
theorem dX11_keepOf_26 : decode cX11_keepOf 26 = .ok (.iload_n 2, 1) := by decide +kernel
theorem dX11_keepOf_27 : decode cX11_keepOf 27 = .ok (.iand, 1) := by decide +kernel
theorem dX11_keepOf_28 : decode cX11_keepOf 28 = .ok (.ifCond .ne 43, 3) := by decide +kernel
theorem dX11_keepOf_31 : decode cX11_keepOf 31 = .ok (.iload_n 3, 1) := by decide +kernel
theorem dX11_keepOf_32 : decode cX11_keepOf 32 = .ok (.iconst (-1), 1) := by decide +kernel
theorem dX11_keepOf_33 : decode cX11_keepOf 33 = .ok (.if_icmp .eq 15, 3) := by decide +kernel
theorem dX11_keepOf_36 : decode cX11_keepOf 36 = .ok (.iload 4, 2) := by decide +kernel
theorem dX11_keepOf_38 : decode cX11_keepOf 38 = .ok (.invokestatic 358, 3) := by decide +kernel
theorem dX11_keepOf_41 : decode cX11_keepOf 41 = .ok (.iload_n 3, 1) := by decide +kernel
theorem dX11_keepOf_42 : decode cX11_keepOf 42 = .ok (.invokestatic 358, 3) := by decide +kernel
theorem dX11_keepOf_45 : decode cX11_keepOf 45 = .ok (.if_icmp .ge 26, 3) := by decide +kernel
theorem dX11_keepOf_48 : decode cX11_keepOf 48 = .ok (.aload_n 0, 1) := by decide +kernel
theorem dX11_keepOf_49 : decode cX11_keepOf 49 = .ok (.aload_n 0, 1) := by decide +kernel
theorem dX11_keepOf_50 : decode cX11_keepOf 50 = .ok (.sipush 128, 3) := by decide +kernel
theorem dX11_keepOf_53 : decode cX11_keepOf 53 = .ok (.iload_n 2, 1) := by decide +kernel
theorem dX11_keepOf_54 : decode cX11_keepOf 54 = .ok (.iload 4, 2) := by decide +kernel
theorem dX11_keepOf_56 : decode cX11_keepOf 56 = .ok (.ior, 1) := by decide +kernel
theorem dX11_keepOf_57 : decode cX11_keepOf 57 = .ok (.iconst 1, 1) := by decide +kernel
theorem dX11_keepOf_58 : decode cX11_keepOf 58 = .ok (.invokevirtual 320, 3) := by decide +kernel
theorem dX11_keepOf_61 : decode cX11_keepOf 61 = .ok (.iload_n 1, 1) := by decide +kernel
theorem dX11_keepOf_62 : decode cX11_keepOf 62 = .ok (.invokevirtual 275, 3) := by decide +kernel
theorem dX11_keepOf_65 : decode cX11_keepOf 65 = .ok (.ifCond .ne 6, 3) := by decide +kernel
theorem dX11_keepOf_68 : decode cX11_keepOf 68 = .ok (.iload 4, 2) := by decide +kernel
theorem dX11_keepOf_70 : decode cX11_keepOf 70 = .ok (.istore_n 3, 1) := by decide +kernel
theorem dX11_keepOf_71 : decode cX11_keepOf 71 = .ok (.iinc 4 1, 3) := by decide +kernel
theorem dX11_keepOf_74 : decode cX11_keepOf 74 = .ok (.goto (-63), 3) := by decide +kernel
theorem dX11_keepOf_77 : decode cX11_keepOf 77 = .ok (.iload_n 3, 1) := by decide +kernel
theorem dX11_keepOf_78 : decode cX11_keepOf 78 = .ok (.ireturn, 1) := by decide +kernel
theorem dX11_keep_0 : decode cX11_keep 0 = .ok (.aload_n 0, 1) := by decide +kernel
theorem dX11_keep_1 : decode cX11_keep 1 = .ok (.iload_n 1, 1) := by decide +kernel
theorem dX11_keep_2 : decode cX11_keep 2 = .ok (.invokevirtual 302, 3) := by decide +kernel
theorem dX11_keep_5 : decode cX11_keep 5 = .ok (.ifCond .eq 18, 3) := by decide +kernel
theorem dX11_keep_8 : decode cX11_keep 8 = .ok (.aload_n 0, 1) := by decide +kernel
theorem dX11_keep_9 : decode cX11_keep 9 = .ok (.aload_n 0, 1) := by decide +kernel
theorem dX11_keep_10 : decode cX11_keep 10 = .ok (.iload_n 1, 1) := by decide +kernel
theorem dX11_keep_11 : decode cX11_keep 11 = .ok (.invokevirtual 394, 3) := by decide +kernel
theorem dX11_keep_14 : decode cX11_keep 14 = .ok (.invokestatic 358, 3) := by decide +kernel
theorem dX11_keep_17 : decode cX11_keep 17 = .ok (.invokevirtual 94, 3) := by decide +kernel
theorem dX11_keep_20 : decode cX11_keep 20 = .ok (.goto 8, 3) := by decide +kernel
theorem dX11_keep_23 : decode cX11_keep 23 = .ok (.aload_n 0, 1) := by decide +kernel
theorem dX11_keep_24 : decode cX11_keep 24 = .ok (.iconst 1, 1) := by decide +kernel
theorem dX11_keep_25 : decode cX11_keep 25 = .ok (.invokevirtual 90, 3) := by decide +kernel
theorem dX11_keep_28 : decode cX11_keep 28 = .ok (.ireturn, 1) := by decide +kernel
theorem dX11_keepSet_0 : decode cX11_keepSet 0 = .ok (.aload_n 0, 1) := by decide +kernel
theorem dX11_keepSet_1 : decode cX11_keepSet 1 = .ok (.iload_n 1, 1) := by decide +kernel
theorem dX11_keepSet_2 : decode cX11_keepSet 2 = .ok (.invokevirtual 302, 3) := by decide +kernel
theorem dX11_keepSet_5 : decode cX11_keepSet 5 = .ok (.ifCond .eq 15, 3) := by decide +kernel
theorem dX11_keepSet_8 : decode cX11_keepSet 8 = .ok (.aload_n 0, 1) := by decide +kernel
theorem dX11_keepSet_9 : decode cX11_keepSet 9 = .ok (.aload_n 0, 1) := by decide +kernel
theorem dX11_keepSet_10 : decode cX11_keepSet 10 = .ok (.iload_n 1, 1) := by decide +kernel
theorem dX11_keepSet_11 : decode cX11_keepSet 11 = .ok (.invokevirtual 394, 3) := by decide +kernel
theorem dX11_keepSet_14 : decode cX11_keepSet 14 = .ok (.invokevirtual 94, 3) := by decide +kernel
theorem dX11_keepSet_17 : decode cX11_keepSet 17 = .ok (.goto 8, 3) := by decide +kernel
theorem dX11_keepSet_20 : decode cX11_keepSet 20 = .ok (.aload_n 0, 1) := by decide +kernel
theorem dX11_keepSet_21 : decode cX11_keepSet 21 = .ok (.iconst 1, 1) := by decide +kernel
theorem dX11_keepSet_22 : decode cX11_keepSet 22 = .ok (.invokevirtual 90, 3) := by decide +kernel
theorem dX11_keepSet_25 : decode cX11_keepSet 25 = .ok (.ireturn, 1) := by decide +kernel
theorem dX11_errandOf_0 : decode cX11_errandOf 0 = .ok (.aload_n 0, 1) := by decide +kernel
theorem dX11_errandOf_1 : decode cX11_errandOf 1 = .ok (.getfield 7, 3) := by decide +kernel
theorem dX11_errandOf_4 : decode cX11_errandOf 4 = .ok (.sipush 147, 3) := by decide +kernel
theorem dX11_errandOf_7 : decode cX11_errandOf 7 = .ok (.iconst 3, 1) := by decide +kernel
theorem dX11_errandOf_8 : decode cX11_errandOf 8 = .ok (.iload_n 1, 1) := by decide +kernel
theorem dX11_errandOf_9 : decode cX11_errandOf 9 = .ok (.imul, 1) := by decide +kernel
theorem dX11_errandOf_10 : decode cX11_errandOf 10 = .ok (.iadd, 1) := by decide +kernel
theorem dX11_errandOf_11 : decode cX11_errandOf 11 = .ok (.iload_n 2, 1) := by decide +kernel
theorem dX11_errandOf_12 : decode cX11_errandOf 12 = .ok (.iadd, 1) := by decide +kernel
theorem dX11_errandOf_13 : decode cX11_errandOf 13 = .ok (.iaload, 1) := by decide +kernel
theorem dX11_errandOf_14 : decode cX11_errandOf 14 = .ok (.ireturn, 1) := by decide +kernel
theorem dX11_hoursOn_0 : decode cX11_hoursOn 0 = .ok (.aload_n 0, 1) := by decide +kernel
theorem dX11_hoursOn_1 : decode cX11_hoursOn 1 = .ok (.getfield 7, 3) := by decide +kernel
theorem dX11_hoursOn_4 : decode cX11_hoursOn 4 = .ok (.iconst 2, 1) := by decide +kernel
theorem dX11_hoursOn_5 : decode cX11_hoursOn 5 = .ok (.iaload, 1) := by decide +kernel
theorem dX11_hoursOn_6 : decode cX11_hoursOn 6 = .ok (.iconst 1, 1) := by decide +kernel
theorem dX11_hoursOn_7 : decode cX11_hoursOn 7 = .ok (.isub, 1) := by decide +kernel
theorem dX11_hoursOn_8 : decode cX11_hoursOn 8 = .ok (.istore_n 1, 1) := by decide +kernel
theorem dX11_hoursOn_9 : decode cX11_hoursOn 9 = .ok (.iload_n 1, 1) := by decide +kernel
theorem dX11_hoursOn_10 : decode cX11_hoursOn 10 = .ok (.ifCond .lt 48, 3) := by decide +kernel
theorem dX11_hoursOn_13 : decode cX11_hoursOn 13 = .ok (.aload_n 0, 1) := by decide +kernel
theorem dX11_hoursOn_14 : decode cX11_hoursOn 14 = .ok (.getfield 59, 3) := by decide +kernel
theorem dX11_hoursOn_17 : decode cX11_hoursOn 17 = .ok (.iload_n 1, 1) := by decide +kernel
theorem dX11_hoursOn_18 : decode cX11_hoursOn 18 = .ok (.iaload, 1) := by decide +kernel
theorem dX11_hoursOn_19 : decode cX11_hoursOn 19 = .ok (.aload_n 0, 1) := by decide +kernel
theorem dX11_hoursOn_20 : decode cX11_hoursOn 20 = .ok (.iload_n 1, 1) := by decide +kernel
theorem dX11_hoursOn_21 : decode cX11_hoursOn 21 = .ok (.iconst 2, 1) := by decide +kernel
theorem dX11_hoursOn_22 : decode cX11_hoursOn 22 = .ok (.invokevirtual 397, 3) := by decide +kernel
theorem dX11_hoursOn_25 : decode cX11_hoursOn 25 = .ok (.if_icmp .ge 15, 3) := by decide +kernel
theorem dX11_hoursOn_28 : decode cX11_hoursOn 28 = .ok (.aload_n 0, 1) := by decide +kernel
theorem dX11_hoursOn_29 : decode cX11_hoursOn 29 = .ok (.getfield 59, 3) := by decide +kernel
theorem dX11_hoursOn_32 : decode cX11_hoursOn 32 = .ok (.iload_n 1, 1) := by decide +kernel
theorem dX11_hoursOn_33 : decode cX11_hoursOn 33 = .ok (.dup2, 1) := by decide +kernel
theorem dX11_hoursOn_34 : decode cX11_hoursOn 34 = .ok (.iaload, 1) := by decide +kernel
theorem dX11_hoursOn_35 : decode cX11_hoursOn 35 = .ok (.iconst 1, 1) := by decide +kernel
theorem dX11_hoursOn_36 : decode cX11_hoursOn 36 = .ok (.iadd, 1) := by decide +kernel
theorem dX11_hoursOn_37 : decode cX11_hoursOn 37 = .ok (.iastore, 1) := by decide +kernel
theorem dX11_hoursOn_38 : decode cX11_hoursOn 38 = .ok (.iconst 1, 1) := by decide +kernel
theorem dX11_hoursOn_39 : decode cX11_hoursOn 39 = .ok (.ireturn, 1) := by decide +kernel
theorem dX11_hoursOn_40 : decode cX11_hoursOn 40 = .ok (.aload_n 0, 1) := by decide +kernel
theorem dX11_hoursOn_41 : decode cX11_hoursOn 41 = .ok (.getfield 59, 3) := by decide +kernel
theorem dX11_hoursOn_44 : decode cX11_hoursOn 44 = .ok (.iload_n 1, 1) := by decide +kernel
theorem dX11_hoursOn_45 : decode cX11_hoursOn 45 = .ok (.aload_n 0, 1) := by decide +kernel
theorem dX11_hoursOn_46 : decode cX11_hoursOn 46 = .ok (.iload_n 1, 1) := by decide +kernel
theorem dX11_hoursOn_47 : decode cX11_hoursOn 47 = .ok (.iconst 1, 1) := by decide +kernel
theorem dX11_hoursOn_48 : decode cX11_hoursOn 48 = .ok (.invokevirtual 397, 3) := by decide +kernel
theorem dX11_hoursOn_51 : decode cX11_hoursOn 51 = .ok (.iastore, 1) := by decide +kernel
theorem dX11_hoursOn_52 : decode cX11_hoursOn 52 = .ok (.iinc 1 (-1), 3) := by decide +kernel
theorem dX11_hoursOn_55 : decode cX11_hoursOn 55 = .ok (.goto (-46), 3) := by decide +kernel
theorem dX11_hoursOn_58 : decode cX11_hoursOn 58 = .ok (.iconst 0, 1) := by decide +kernel
theorem dX11_hoursOn_59 : decode cX11_hoursOn 59 = .ok (.ireturn, 1) := by decide +kernel
theorem dX11_plans_0 : decode cX11_plans 0 = .ok (.aload_n 0, 1) := by decide +kernel
theorem dX11_plans_1 : decode cX11_plans 1 = .ok (.ldc_w 385, 3) := by decide +kernel
theorem dX11_plans_4 : decode cX11_plans 4 = .ok (.putfield 400, 3) := by decide +kernel
theorem dX11_plans_7 : decode cX11_plans 7 = .ok (.iconst 0, 1) := by decide +kernel
theorem dX11_plans_8 : decode cX11_plans 8 = .ok (.istore_n 1, 1) := by decide +kernel
theorem dX11_plans_9 : decode cX11_plans 9 = .ok (.iload_n 1, 1) := by decide +kernel
theorem dX11_plans_10 : decode cX11_plans 10 = .ok (.aload_n 0, 1) := by decide +kernel
theorem dX11_plans_11 : decode cX11_plans 11 = .ok (.getfield 7, 3) := by decide +kernel
theorem dX11_plans_14 : decode cX11_plans 14 = .ok (.iconst 2, 1) := by decide +kernel
theorem dX11_plans_15 : decode cX11_plans 15 = .ok (.iaload, 1) := by decide +kernel
theorem dX11_plans_16 : decode cX11_plans 16 = .ok (.if_icmp .ge 21, 3) := by decide +kernel
theorem dX11_plans_19 : decode cX11_plans 19 = .ok (.aload_n 0, 1) := by decide +kernel
theorem dX11_plans_20 : decode cX11_plans 20 = .ok (.getfield 59, 3) := by decide +kernel
theorem dX11_plans_23 : decode cX11_plans 23 = .ok (.iload_n 1, 1) := by decide +kernel
theorem dX11_plans_24 : decode cX11_plans 24 = .ok (.aload_n 0, 1) := by decide +kernel
theorem dX11_plans_25 : decode cX11_plans 25 = .ok (.iload_n 1, 1) := by decide +kernel
theorem dX11_plans_26 : decode cX11_plans 26 = .ok (.iconst 1, 1) := by decide +kernel
theorem dX11_plans_27 : decode cX11_plans 27 = .ok (.invokevirtual 397, 3) := by decide +kernel
theorem dX11_plans_30 : decode cX11_plans 30 = .ok (.iastore, 1) := by decide +kernel
theorem dX11_plans_31 : decode cX11_plans 31 = .ok (.iinc 1 1, 3) := by decide +kernel
theorem dX11_plans_34 : decode cX11_plans 34 = .ok (.goto (-25), 3) := by decide +kernel
theorem dX11_plans_37 : decode cX11_plans 37 = .ok (.aload_n 0, 1) := by decide +kernel
theorem dX11_plans_38 : decode cX11_plans 38 = .ok (.sipush 3144, 3) := by decide +kernel
theorem dX11_plans_41 : decode cX11_plans 41 = .ok (.invokevirtual 361, 3) := by decide +kernel
theorem dX11_plans_44 : decode cX11_plans 44 = .ok (.iconst 1, 1) := by decide +kernel
theorem dX11_plans_45 : decode cX11_plans 45 = .ok (.istore_n 1, 1) := by decide +kernel
theorem dX11_plans_46 : decode cX11_plans 46 = .ok (.iload_n 1, 1) := by decide +kernel
theorem dX11_plans_47 : decode cX11_plans 47 = .ok (.ifCond .eq 176, 3) := by decide +kernel
theorem dX11_plans_50 : decode cX11_plans 50 = .ok (.iconst 0, 1) := by decide +kernel
theorem dX11_plans_51 : decode cX11_plans 51 = .ok (.istore_n 2, 1) := by decide +kernel
theorem dX11_plans_52 : decode cX11_plans 52 = .ok (.iload_n 2, 1) := by decide +kernel
theorem dX11_plans_53 : decode cX11_plans 53 = .ok (.bipush 12, 2) := by decide +kernel
theorem dX11_plans_55 : decode cX11_plans 55 = .ok (.if_icmp .ge 71, 3) := by decide +kernel
theorem dX11_plans_58 : decode cX11_plans 58 = .ok (.aload_n 0, 1) := by decide +kernel
theorem dX11_plans_59 : decode cX11_plans 59 = .ok (.iconst 0, 1) := by decide +kernel
theorem dX11_plans_60 : decode cX11_plans 60 = .ok (.putfield 50, 3) := by decide +kernel
theorem dX11_plans_63 : decode cX11_plans 63 = .ok (.iconst 0, 1) := by decide +kernel
theorem dX11_plans_64 : decode cX11_plans 64 = .ok (.istore_n 3, 1) := by decide +kernel
theorem dX11_plans_65 : decode cX11_plans 65 = .ok (.iload_n 3, 1) := by decide +kernel
theorem dX11_plans_66 : decode cX11_plans 66 = .ok (.aload_n 0, 1) := by decide +kernel
theorem dX11_plans_67 : decode cX11_plans 67 = .ok (.getfield 7, 3) := by decide +kernel
theorem dX11_plans_70 : decode cX11_plans 70 = .ok (.iconst 2, 1) := by decide +kernel
theorem dX11_plans_71 : decode cX11_plans 71 = .ok (.iaload, 1) := by decide +kernel
theorem dX11_plans_72 : decode cX11_plans 72 = .ok (.if_icmp .ge 43, 3) := by decide +kernel
theorem dX11_plans_75 : decode cX11_plans 75 = .ok (.aload_n 0, 1) := by decide +kernel
theorem dX11_plans_76 : decode cX11_plans 76 = .ok (.dup, 1) := by decide +kernel
theorem dX11_plans_77 : decode cX11_plans 77 = .ok (.getfield 50, 3) := by decide +kernel
theorem dX11_plans_80 : decode cX11_plans 80 = .ok (.aload_n 0, 1) := by decide +kernel
theorem dX11_plans_81 : decode cX11_plans 81 = .ok (.getfield 59, 3) := by decide +kernel
theorem dX11_plans_84 : decode cX11_plans 84 = .ok (.iload_n 3, 1) := by decide +kernel
theorem dX11_plans_85 : decode cX11_plans 85 = .ok (.iaload, 1) := by decide +kernel
theorem dX11_plans_86 : decode cX11_plans 86 = .ok (.aload_n 0, 1) := by decide +kernel
theorem dX11_plans_87 : decode cX11_plans 87 = .ok (.invokevirtual 266, 3) := by decide +kernel
theorem dX11_plans_90 : decode cX11_plans 90 = .ok (.if_icmp .ne 14, 3) := by decide +kernel
theorem dX11_plans_93 : decode cX11_plans 93 = .ok (.iconst 1, 1) := by decide +kernel
theorem dX11_plans_94 : decode cX11_plans 94 = .ok (.aload_n 0, 1) := by decide +kernel
theorem dX11_plans_95 : decode cX11_plans 95 = .ok (.iload_n 3, 1) := by decide +kernel
theorem dX11_plans_96 : decode cX11_plans 96 = .ok (.iconst 0, 1) := by decide +kernel
theorem dX11_plans_97 : decode cX11_plans 97 = .ok (.invokevirtual 397, 3) := by decide +kernel
theorem dX11_plans_100 : decode cX11_plans 100 = .ok (.ishl, 1) := by decide +kernel
theorem dX11_plans_101 : decode cX11_plans 101 = .ok (.goto 4, 3) := by decide +kernel
theorem dX11_plans_104 : decode cX11_plans 104 = .ok (.iconst 0, 1) := by decide +kernel
theorem dX11_plans_105 : decode cX11_plans 105 = .ok (.ior, 1) := by decide +kernel
theorem dX11_plans_106 : decode cX11_plans 106 = .ok (.putfield 50, 3) := by decide +kernel
theorem dX11_plans_109 : decode cX11_plans 109 = .ok (.iinc 3 1, 3) := by decide +kernel
theorem dX11_plans_112 : decode cX11_plans 112 = .ok (.goto (-47), 3) := by decide +kernel
theorem dX11_plans_115 : decode cX11_plans 115 = .ok (.aload_n 0, 1) := by decide +kernel
theorem dX11_plans_116 : decode cX11_plans 116 = .ok (.invokevirtual 332, 3) := by decide +kernel
theorem dX11_plans_119 : decode cX11_plans 119 = .ok (.pop, 1) := by decide +kernel
theorem dX11_plans_120 : decode cX11_plans 120 = .ok (.iinc 2 1, 3) := by decide +kernel
theorem dX11_plans_123 : decode cX11_plans 123 = .ok (.goto (-71), 3) := by decide +kernel
theorem dX11_plans_126 : decode cX11_plans 126 = .ok (.aload_n 0, 1) := by decide +kernel
theorem dX11_plans_127 : decode cX11_plans 127 = .ok (.iconst 1, 1) := by decide +kernel
theorem dX11_plans_128 : decode cX11_plans 128 = .ok (.invokevirtual 299, 3) := by decide +kernel
theorem dX11_plans_131 : decode cX11_plans 131 = .ok (.invokestatic 358, 3) := by decide +kernel
theorem dX11_plans_134 : decode cX11_plans 134 = .ok (.istore_n 2, 1) := by decide +kernel
theorem dX11_plans_135 : decode cX11_plans 135 = .ok (.aload_n 0, 1) := by decide +kernel
theorem dX11_plans_136 : decode cX11_plans 136 = .ok (.invokevirtual 296, 3) := by decide +kernel
theorem dX11_plans_139 : decode cX11_plans 139 = .ok (.istore_n 3, 1) := by decide +kernel
theorem dX11_plans_140 : decode cX11_plans 140 = .ok (.aload_n 0, 1) := by decide +kernel
theorem dX11_plans_141 : decode cX11_plans 141 = .ok (.sipush 3144, 3) := by decide +kernel
theorem dX11_plans_144 : decode cX11_plans 144 = .ok (.invokevirtual 364, 3) := by decide +kernel
theorem dX11_plans_147 : decode cX11_plans 147 = .ok (.iload_n 2, 1) := by decide +kernel
theorem dX11_plans_148 : decode cX11_plans 148 = .ok (.aload_n 0, 1) := by decide +kernel
theorem dX11_plans_149 : decode cX11_plans 149 = .ok (.getfield 400, 3) := by decide +kernel
theorem dX11_plans_152 : decode cX11_plans 152 = .ok (.if_icmp .lt 19, 3) := by decide +kernel
theorem dX11_plans_155 : decode cX11_plans 155 = .ok (.iload_n 2, 1) := by decide +kernel
theorem dX11_plans_156 : decode cX11_plans 156 = .ok (.aload_n 0, 1) := by decide +kernel
theorem dX11_plans_157 : decode cX11_plans 157 = .ok (.getfield 400, 3) := by decide +kernel
theorem dX11_plans_160 : decode cX11_plans 160 = .ok (.if_icmp .ne 55, 3) := by decide +kernel
theorem dX11_plans_163 : decode cX11_plans 163 = .ok (.iload_n 3, 1) := by decide +kernel
theorem dX11_plans_164 : decode cX11_plans 164 = .ok (.aload_n 0, 1) := by decide +kernel
theorem dX11_plans_165 : decode cX11_plans 165 = .ok (.getfield 403, 3) := by decide +kernel
theorem dX11_plans_168 : decode cX11_plans 168 = .ok (.if_icmp .ge 47, 3) := by decide +kernel
theorem dX11_plans_171 : decode cX11_plans 171 = .ok (.aload_n 0, 1) := by decide +kernel
theorem dX11_plans_172 : decode cX11_plans 172 = .ok (.iload_n 2, 1) := by decide +kernel
theorem dX11_plans_173 : decode cX11_plans 173 = .ok (.putfield 400, 3) := by decide +kernel
theorem dX11_plans_176 : decode cX11_plans 176 = .ok (.aload_n 0, 1) := by decide +kernel
theorem dX11_plans_177 : decode cX11_plans 177 = .ok (.iload_n 3, 1) := by decide +kernel
theorem dX11_plans_178 : decode cX11_plans 178 = .ok (.putfield 403, 3) := by decide +kernel
theorem dX11_plans_181 : decode cX11_plans 181 = .ok (.iconst 0, 1) := by decide +kernel
theorem dX11_plans_182 : decode cX11_plans 182 = .ok (.istore 4, 2) := by decide +kernel
theorem dX11_plans_184 : decode cX11_plans 184 = .ok (.iload 4, 2) := by decide +kernel
theorem dX11_plans_186 : decode cX11_plans 186 = .ok (.aload_n 0, 1) := by decide +kernel
theorem dX11_plans_187 : decode cX11_plans 187 = .ok (.getfield 7, 3) := by decide +kernel
theorem dX11_plans_190 : decode cX11_plans 190 = .ok (.iconst 2, 1) := by decide +kernel
theorem dX11_plans_191 : decode cX11_plans 191 = .ok (.iaload, 1) := by decide +kernel
theorem dX11_plans_192 : decode cX11_plans 192 = .ok (.if_icmp .ge 23, 3) := by decide +kernel
theorem dX11_plans_195 : decode cX11_plans 195 = .ok (.aload_n 0, 1) := by decide +kernel
theorem dX11_plans_196 : decode cX11_plans 196 = .ok (.getfield 62, 3) := by decide +kernel
theorem dX11_plans_199 : decode cX11_plans 199 = .ok (.iload 4, 2) := by decide +kernel
theorem dX11_plans_201 : decode cX11_plans 201 = .ok (.aload_n 0, 1) := by decide +kernel
theorem dX11_plans_202 : decode cX11_plans 202 = .ok (.getfield 59, 3) := by decide +kernel
theorem dX11_plans_205 : decode cX11_plans 205 = .ok (.iload 4, 2) := by decide +kernel
theorem dX11_plans_207 : decode cX11_plans 207 = .ok (.iaload, 1) := by decide +kernel
theorem dX11_plans_208 : decode cX11_plans 208 = .ok (.iastore, 1) := by decide +kernel
theorem dX11_plans_209 : decode cX11_plans 209 = .ok (.iinc 4 1, 3) := by decide +kernel
theorem dX11_plans_212 : decode cX11_plans 212 = .ok (.goto (-28), 3) := by decide +kernel
theorem dX11_plans_215 : decode cX11_plans 215 = .ok (.aload_n 0, 1) := by decide +kernel
theorem dX11_plans_216 : decode cX11_plans 216 = .ok (.invokevirtual 406, 3) := by decide +kernel
theorem dX11_plans_219 : decode cX11_plans 219 = .ok (.istore_n 1, 1) := by decide +kernel
theorem dX11_plans_220 : decode cX11_plans 220 = .ok (.goto (-174), 3) := by decide +kernel
theorem dX11_plans_223 : decode cX11_plans 223 = .ok (.aload_n 0, 1) := by decide +kernel
theorem dX11_plans_224 : decode cX11_plans 224 = .ok (.iconst (-1), 1) := by decide +kernel
theorem dX11_plans_225 : decode cX11_plans 225 = .ok (.putfield 50, 3) := by decide +kernel
theorem dX11_plans_228 : decode cX11_plans 228 = .ok (.return_, 1) := by decide +kernel
theorem dX11_plan_0 : decode cX11_plan 0 = .ok (.iload_n 1, 1) := by decide +kernel
theorem dX11_plan_1 : decode cX11_plan 1 = .ok (.ifCond .lt 8, 3) := by decide +kernel
theorem dX11_plan_4 : decode cX11_plan 4 = .ok (.iload_n 1, 1) := by decide +kernel
theorem dX11_plan_5 : decode cX11_plan 5 = .ok (.iconst 1, 1) := by decide +kernel
theorem dX11_plan_6 : decode cX11_plan 6 = .ok (.if_icmp .le 9, 3) := by decide +kernel
theorem dX11_plan_9 : decode cX11_plan 9 = .ok (.aload_n 0, 1) := by decide +kernel
theorem dX11_plan_10 : decode cX11_plan 10 = .ok (.iconst 1, 1) := by decide +kernel
theorem dX11_plan_11 : decode cX11_plan 11 = .ok (.invokevirtual 90, 3) := by decide +kernel
theorem dX11_plan_14 : decode cX11_plan 14 = .ok (.ireturn, 1) := by decide +kernel
theorem dX11_plan_15 : decode cX11_plan 15 = .ok (.aload_n 0, 1) := by decide +kernel
theorem dX11_plan_16 : decode cX11_plan 16 = .ok (.getfield 7, 3) := by decide +kernel
theorem dX11_plan_19 : decode cX11_plan 19 = .ok (.iconst 2, 1) := by decide +kernel
theorem dX11_plan_20 : decode cX11_plan 20 = .ok (.iaload, 1) := by decide +kernel
theorem dX11_plan_21 : decode cX11_plan 21 = .ok (.ifCond .ne 10, 3) := by decide +kernel
theorem dX11_plan_24 : decode cX11_plan 24 = .ok (.aload_n 0, 1) := by decide +kernel
theorem dX11_plan_25 : decode cX11_plan 25 = .ok (.bipush 6, 2) := by decide +kernel
theorem dX11_plan_27 : decode cX11_plan 27 = .ok (.invokevirtual 90, 3) := by decide +kernel
theorem dX11_plan_30 : decode cX11_plan 30 = .ok (.ireturn, 1) := by decide +kernel
theorem dX11_plan_31 : decode cX11_plan 31 = .ok (.aload_n 0, 1) := by decide +kernel
theorem dX11_plan_32 : decode cX11_plan 32 = .ok (.invokevirtual 409, 3) := by decide +kernel
theorem dX11_plan_35 : decode cX11_plan 35 = .ok (.aload_n 0, 1) := by decide +kernel
theorem dX11_plan_36 : decode cX11_plan 36 = .ok (.iload_n 1, 1) := by decide +kernel
theorem dX11_plan_37 : decode cX11_plan 37 = .ok (.ifCond .ne 10, 3) := by decide +kernel
theorem dX11_plan_40 : decode cX11_plan 40 = .ok (.aload_n 0, 1) := by decide +kernel
theorem dX11_plan_41 : decode cX11_plan 41 = .ok (.getfield 400, 3) := by decide +kernel
theorem dX11_plan_44 : decode cX11_plan 44 = .ok (.goto 7, 3) := by decide +kernel
theorem dX11_plan_47 : decode cX11_plan 47 = .ok (.aload_n 0, 1) := by decide +kernel
theorem dX11_plan_48 : decode cX11_plan 48 = .ok (.getfield 403, 3) := by decide +kernel
theorem dX11_plan_51 : decode cX11_plan 51 = .ok (.invokevirtual 94, 3) := by decide +kernel
theorem dX11_plan_54 : decode cX11_plan 54 = .ok (.ireturn, 1) := by decide +kernel
theorem dX11_planned_0 : decode cX11_planned 0 = .ok (.aload_n 0, 1) := by decide +kernel
theorem dX11_planned_1 : decode cX11_planned 1 = .ok (.iload_n 1, 1) := by decide +kernel
theorem dX11_planned_2 : decode cX11_planned 2 = .ok (.invokevirtual 308, 3) := by decide +kernel
theorem dX11_planned_5 : decode cX11_planned 5 = .ok (.ifCond .ne 9, 3) := by decide +kernel
theorem dX11_planned_8 : decode cX11_planned 8 = .ok (.aload_n 0, 1) := by decide +kernel
theorem dX11_planned_9 : decode cX11_planned 9 = .ok (.iconst 1, 1) := by decide +kernel
theorem dX11_planned_10 : decode cX11_planned 10 = .ok (.invokevirtual 90, 3) := by decide +kernel
theorem dX11_planned_13 : decode cX11_planned 13 = .ok (.ireturn, 1) := by decide +kernel
theorem dX11_planned_14 : decode cX11_planned 14 = .ok (.aload_n 0, 1) := by decide +kernel
theorem dX11_planned_15 : decode cX11_planned 15 = .ok (.invokevirtual 409, 3) := by decide +kernel
theorem dX11_planned_18 : decode cX11_planned 18 = .ok (.aload_n 0, 1) := by decide +kernel
theorem dX11_planned_19 : decode cX11_planned 19 = .ok (.aload_n 0, 1) := by decide +kernel
theorem dX11_planned_20 : decode cX11_planned 20 = .ok (.getfield 62, 3) := by decide +kernel
theorem dX11_planned_23 : decode cX11_planned 23 = .ok (.iload_n 1, 1) := by decide +kernel
theorem dX11_planned_24 : decode cX11_planned 24 = .ok (.iaload, 1) := by decide +kernel
theorem dX11_planned_25 : decode cX11_planned 25 = .ok (.invokevirtual 94, 3) := by decide +kernel
theorem dX11_planned_28 : decode cX11_planned 28 = .ok (.ireturn, 1) := by decide +kernel
theorem dX11_saveOf_0 : decode cX11_saveOf 0 = .ok (.iconst (-1), 1) := by decide +kernel
theorem dX11_saveOf_1 : decode cX11_saveOf 1 = .ok (.istore_n 2, 1) := by decide +kernel
theorem dX11_saveOf_2 : decode cX11_saveOf 2 = .ok (.aload_n 0, 1) := by decide +kernel
theorem dX11_saveOf_3 : decode cX11_saveOf 3 = .ok (.sipush 3144, 3) := by decide +kernel
theorem dX11_saveOf_6 : decode cX11_saveOf 6 = .ok (.invokevirtual 361, 3) := by decide +kernel
theorem dX11_saveOf_9 : decode cX11_saveOf 9 = .ok (.iconst 0, 1) := by decide +kernel
theorem dX11_saveOf_10 : decode cX11_saveOf 10 = .ok (.istore_n 3, 1) := by decide +kernel
theorem dX11_saveOf_11 : decode cX11_saveOf 11 = .ok (.iload_n 3, 1) := by decide +kernel
theorem dX11_saveOf_12 : decode cX11_saveOf 12 = .ok (.sipush 4096, 3) := by decide +kernel
theorem dX11_saveOf_15 : decode cX11_saveOf 15 = .ok (.if_icmp .ge 100, 3) := by decide +kernel
theorem dX11_saveOf_18 : decode cX11_saveOf 18 = .ok (.iload_n 3, 1) := by decide +kernel
theorem dX11_saveOf_19 : decode cX11_saveOf 19 = .ok (.invokestatic 358, 3) := by decide +kernel
theorem dX11_saveOf_22 : decode cX11_saveOf 22 = .ok (.iload_n 1, 1) := by decide +kernel
theorem dX11_saveOf_23 : decode cX11_saveOf 23 = .ok (.if_icmp .eq 6, 3) := by decide +kernel
theorem dX11_saveOf_26 : decode cX11_saveOf 26 = .ok (.goto 83, 3) := by decide +kernel
theorem dX11_saveOf_29 : decode cX11_saveOf 29 = .ok (.iconst 0, 1) := by decide +kernel
theorem dX11_saveOf_30 : decode cX11_saveOf 30 = .ok (.istore 4, 2) := by decide +kernel
theorem dX11_saveOf_32 : decode cX11_saveOf 32 = .ok (.iload 4, 2) := by decide +kernel
theorem dX11_saveOf_34 : decode cX11_saveOf 34 = .ok (.bipush 12, 2) := by decide +kernel
theorem dX11_saveOf_36 : decode cX11_saveOf 36 = .ok (.if_icmp .ge 35, 3) := by decide +kernel
theorem dX11_saveOf_39 : decode cX11_saveOf 39 = .ok (.aload_n 0, 1) := by decide +kernel
theorem dX11_saveOf_40 : decode cX11_saveOf 40 = .ok (.aload_n 0, 1) := by decide +kernel
theorem dX11_saveOf_41 : decode cX11_saveOf 41 = .ok (.iload_n 3, 1) := by decide +kernel
theorem dX11_saveOf_42 : decode cX11_saveOf 42 = .ok (.aload_n 0, 1) := by decide +kernel
theorem dX11_saveOf_43 : decode cX11_saveOf 43 = .ok (.invokevirtual 266, 3) := by decide +kernel
theorem dX11_saveOf_46 : decode cX11_saveOf 46 = .ok (.invokevirtual 275, 3) := by decide +kernel
theorem dX11_saveOf_49 : decode cX11_saveOf 49 = .ok (.ifCond .ne 7, 3) := by decide +kernel
theorem dX11_saveOf_52 : decode cX11_saveOf 52 = .ok (.iconst 1, 1) := by decide +kernel
theorem dX11_saveOf_53 : decode cX11_saveOf 53 = .ok (.goto 4, 3) := by decide +kernel
theorem dX11_saveOf_56 : decode cX11_saveOf 56 = .ok (.iconst 0, 1) := by decide +kernel
theorem dX11_saveOf_57 : decode cX11_saveOf 57 = .ok (.putfield 328, 3) := by decide +kernel
theorem dX11_saveOf_60 : decode cX11_saveOf 60 = .ok (.aload_n 0, 1) := by decide +kernel
theorem dX11_saveOf_61 : decode cX11_saveOf 61 = .ok (.invokevirtual 332, 3) := by decide +kernel
theorem dX11_saveOf_64 : decode cX11_saveOf 64 = .ok (.pop, 1) := by decide +kernel
theorem dX11_saveOf_65 : decode cX11_saveOf 65 = .ok (.iinc 4 1, 3) := by decide +kernel
theorem dX11_saveOf_68 : decode cX11_saveOf 68 = .ok (.goto (-36), 3) := by decide +kernel
theorem dX11_saveOf_71 : decode cX11_saveOf 71 = .ok (.aload_n 0, 1) := by decide +kernel
theorem dX11_saveOf_72 : decode cX11_saveOf 72 = .ok (.invokevirtual 296, 3) := by decide +kernel
theorem dX11_saveOf_75 : decode cX11_saveOf 75 = .ok (.istore 4, 2) := by decide +kernel
theorem dX11_saveOf_77 : decode cX11_saveOf 77 = .ok (.aload_n 0, 1) := by decide +kernel
theorem dX11_saveOf_78 : decode cX11_saveOf 78 = .ok (.sipush 3144, 3) := by decide +kernel
theorem dX11_saveOf_81 : decode cX11_saveOf 81 = .ok (.invokevirtual 364, 3) := by decide +kernel
theorem dX11_saveOf_84 : decode cX11_saveOf 84 = .ok (.iload_n 2, 1) := by decide +kernel
theorem dX11_saveOf_85 : decode cX11_saveOf 85 = .ok (.iconst (-1), 1) := by decide +kernel
theorem dX11_saveOf_86 : decode cX11_saveOf 86 = .ok (.if_icmp .eq 15, 3) := by decide +kernel
theorem dX11_saveOf_89 : decode cX11_saveOf 89 = .ok (.iload 4, 2) := by decide +kernel
theorem dX11_saveOf_91 : decode cX11_saveOf 91 = .ok (.aload_n 0, 1) := by decide +kernel
theorem dX11_saveOf_92 : decode cX11_saveOf 92 = .ok (.getfield 412, 3) := by decide +kernel
theorem dX11_saveOf_95 : decode cX11_saveOf 95 = .ok (.if_icmp .lt 6, 3) := by decide +kernel
theorem dX11_saveOf_98 : decode cX11_saveOf 98 = .ok (.goto 11, 3) := by decide +kernel
theorem dX11_saveOf_101 : decode cX11_saveOf 101 = .ok (.iload_n 3, 1) := by decide +kernel
theorem dX11_saveOf_102 : decode cX11_saveOf 102 = .ok (.istore_n 2, 1) := by decide +kernel
theorem dX11_saveOf_103 : decode cX11_saveOf 103 = .ok (.aload_n 0, 1) := by decide +kernel
theorem dX11_saveOf_104 : decode cX11_saveOf 104 = .ok (.iload 4, 2) := by decide +kernel
theorem dX11_saveOf_106 : decode cX11_saveOf 106 = .ok (.putfield 412, 3) := by decide +kernel
theorem dX11_saveOf_109 : decode cX11_saveOf 109 = .ok (.iinc 3 1, 3) := by decide +kernel
theorem dX11_saveOf_112 : decode cX11_saveOf 112 = .ok (.goto (-101), 3) := by decide +kernel
theorem dX11_saveOf_115 : decode cX11_saveOf 115 = .ok (.aload_n 0, 1) := by decide +kernel
theorem dX11_saveOf_116 : decode cX11_saveOf 116 = .ok (.iconst 0, 1) := by decide +kernel
theorem dX11_saveOf_117 : decode cX11_saveOf 117 = .ok (.putfield 328, 3) := by decide +kernel
theorem dX11_saveOf_120 : decode cX11_saveOf 120 = .ok (.iload_n 2, 1) := by decide +kernel
theorem dX11_saveOf_121 : decode cX11_saveOf 121 = .ok (.ireturn, 1) := by decide +kernel
theorem dX11_save_0 : decode cX11_save 0 = .ok (.iload_n 1, 1) := by decide +kernel
theorem dX11_save_1 : decode cX11_save 1 = .ok (.i2l, 1) := by decide +kernel
theorem dX11_save_2 : decode cX11_save 2 = .ok (.lconst 0, 1) := by decide +kernel
theorem dX11_save_3 : decode cX11_save 3 = .ok (.ldc2_w 415, 3) := by decide +kernel
theorem dX11_save_6 : decode cX11_save 6 = .ok (.invokestatic 337, 3) := by decide +kernel
theorem dX11_save_9 : decode cX11_save 9 = .ok (.ifCond .ne 9, 3) := by decide +kernel
theorem dX11_save_12 : decode cX11_save 12 = .ok (.aload_n 0, 1) := by decide +kernel
theorem dX11_save_13 : decode cX11_save 13 = .ok (.iconst 1, 1) := by decide +kernel
theorem dX11_save_14 : decode cX11_save 14 = .ok (.invokevirtual 90, 3) := by decide +kernel
theorem dX11_save_17 : decode cX11_save 17 = .ok (.ireturn, 1) := by decide +kernel
theorem dX11_save_18 : decode cX11_save 18 = .ok (.aload_n 0, 1) := by decide +kernel
theorem dX11_save_19 : decode cX11_save 19 = .ok (.iload_n 1, 1) := by decide +kernel
theorem dX11_save_20 : decode cX11_save 20 = .ok (.invokevirtual 417, 3) := by decide +kernel
theorem dX11_save_23 : decode cX11_save 23 = .ok (.pop, 1) := by decide +kernel
theorem dX11_save_24 : decode cX11_save 24 = .ok (.aload_n 0, 1) := by decide +kernel
theorem dX11_save_25 : decode cX11_save 25 = .ok (.aload_n 0, 1) := by decide +kernel
theorem dX11_save_26 : decode cX11_save 26 = .ok (.getfield 412, 3) := by decide +kernel
theorem dX11_save_29 : decode cX11_save 29 = .ok (.invokevirtual 94, 3) := by decide +kernel
theorem dX11_save_32 : decode cX11_save 32 = .ok (.ireturn, 1) := by decide +kernel
theorem dX11_saveSet_0 : decode cX11_saveSet 0 = .ok (.iload_n 1, 1) := by decide +kernel
theorem dX11_saveSet_1 : decode cX11_saveSet 1 = .ok (.i2l, 1) := by decide +kernel
theorem dX11_saveSet_2 : decode cX11_saveSet 2 = .ok (.lconst 0, 1) := by decide +kernel
theorem dX11_saveSet_3 : decode cX11_saveSet 3 = .ok (.ldc2_w 415, 3) := by decide +kernel
theorem dX11_saveSet_6 : decode cX11_saveSet 6 = .ok (.invokestatic 337, 3) := by decide +kernel
theorem dX11_saveSet_9 : decode cX11_saveSet 9 = .ok (.ifCond .eq 15, 3) := by decide +kernel
theorem dX11_saveSet_12 : decode cX11_saveSet 12 = .ok (.aload_n 0, 1) := by decide +kernel
theorem dX11_saveSet_13 : decode cX11_saveSet 13 = .ok (.aload_n 0, 1) := by decide +kernel
theorem dX11_saveSet_14 : decode cX11_saveSet 14 = .ok (.iload_n 1, 1) := by decide +kernel
theorem dX11_saveSet_15 : decode cX11_saveSet 15 = .ok (.invokevirtual 417, 3) := by decide +kernel
theorem dX11_saveSet_18 : decode cX11_saveSet 18 = .ok (.invokevirtual 94, 3) := by decide +kernel
theorem dX11_saveSet_21 : decode cX11_saveSet 21 = .ok (.goto 8, 3) := by decide +kernel
theorem dX11_saveSet_24 : decode cX11_saveSet 24 = .ok (.aload_n 0, 1) := by decide +kernel
theorem dX11_saveSet_25 : decode cX11_saveSet 25 = .ok (.iconst 1, 1) := by decide +kernel
theorem dX11_saveSet_26 : decode cX11_saveSet 26 = .ok (.invokevirtual 90, 3) := by decide +kernel
theorem dX11_saveSet_29 : decode cX11_saveSet 29 = .ok (.ireturn, 1) := by decide +kernel
theorem dX11_damageOf_0 : decode cX11_damageOf 0 = .ok (.aload_n 0, 1) := by decide +kernel
theorem dX11_damageOf_1 : decode cX11_damageOf 1 = .ok (.iload_n 1, 1) := by decide +kernel
theorem dX11_damageOf_2 : decode cX11_damageOf 2 = .ok (.putfield 47, 3) := by decide +kernel
theorem dX11_damageOf_5 : decode cX11_damageOf 5 = .ok (.aload_n 0, 1) := by decide +kernel
theorem dX11_damageOf_6 : decode cX11_damageOf 6 = .ok (.iconst (-1), 1) := by decide +kernel
theorem dX11_damageOf_7 : decode cX11_damageOf 7 = .ok (.bipush 12, 2) := by decide +kernel
theorem dX11_damageOf_9 : decode cX11_damageOf 9 = .ok (.invokevirtual 370, 3) := by decide +kernel
theorem dX11_damageOf_12 : decode cX11_damageOf 12 = .ok (.istore_n 2, 1) := by decide +kernel
theorem dX11_damageOf_13 : decode cX11_damageOf 13 = .ok (.aload_n 0, 1) := by decide +kernel
theorem dX11_damageOf_14 : decode cX11_damageOf 14 = .ok (.iconst (-1), 1) := by decide +kernel
theorem dX11_damageOf_15 : decode cX11_damageOf 15 = .ok (.putfield 47, 3) := by decide +kernel
theorem dX11_damageOf_18 : decode cX11_damageOf 18 = .ok (.iload_n 2, 1) := by decide +kernel
theorem dX11_damageOf_19 : decode cX11_damageOf 19 = .ok (.ireturn, 1) := by decide +kernel
theorem dX11_isSet_0 : decode cX11_isSet 0 = .ok (.iload_n 1, 1) := by decide +kernel
theorem dX11_isSet_1 : decode cX11_isSet 1 = .ok (.i2l, 1) := by decide +kernel
theorem dX11_isSet_2 : decode cX11_isSet 2 = .ok (.lconst 0, 1) := by decide +kernel
theorem dX11_isSet_3 : decode cX11_isSet 3 = .ok (.lconst 1, 1) := by decide +kernel
theorem dX11_isSet_4 : decode cX11_isSet 4 = .ok (.aload_n 0, 1) := by decide +kernel
theorem dX11_isSet_5 : decode cX11_isSet 5 = .ok (.getfield 7, 3) := by decide +kernel
theorem dX11_isSet_8 : decode cX11_isSet 8 = .ok (.iconst 1, 1) := by decide +kernel
theorem dX11_isSet_9 : decode cX11_isSet 9 = .ok (.iaload, 1) := by decide +kernel
theorem dX11_isSet_10 : decode cX11_isSet 10 = .ok (.lshl, 1) := by decide +kernel
theorem dX11_isSet_11 : decode cX11_isSet 11 = .ok (.lconst 1, 1) := by decide +kernel
theorem dX11_isSet_12 : decode cX11_isSet 12 = .ok (.lsub, 1) := by decide +kernel
theorem dX11_isSet_13 : decode cX11_isSet 13 = .ok (.invokestatic 337, 3) := by decide +kernel
theorem dX11_isSet_16 : decode cX11_isSet 16 = .ok (.ireturn, 1) := by decide +kernel
theorem dX11_damage_0 : decode cX11_damage 0 = .ok (.aload_n 0, 1) := by decide +kernel
theorem dX11_damage_1 : decode cX11_damage 1 = .ok (.iload_n 1, 1) := by decide +kernel
theorem dX11_damage_2 : decode cX11_damage 2 = .ok (.invokevirtual 420, 3) := by decide +kernel
theorem dX11_damage_5 : decode cX11_damage 5 = .ok (.ifCond .eq 15, 3) := by decide +kernel
theorem dX11_damage_8 : decode cX11_damage 8 = .ok (.aload_n 0, 1) := by decide +kernel
theorem dX11_damage_9 : decode cX11_damage 9 = .ok (.aload_n 0, 1) := by decide +kernel
theorem dX11_damage_10 : decode cX11_damage 10 = .ok (.iload_n 1, 1) := by decide +kernel
theorem dX11_damage_11 : decode cX11_damage 11 = .ok (.invokevirtual 423, 3) := by decide +kernel
theorem dX11_damage_14 : decode cX11_damage 14 = .ok (.invokevirtual 94, 3) := by decide +kernel
theorem dX11_damage_17 : decode cX11_damage 17 = .ok (.goto 8, 3) := by decide +kernel
theorem dX11_damage_20 : decode cX11_damage 20 = .ok (.aload_n 0, 1) := by decide +kernel
theorem dX11_damage_21 : decode cX11_damage 21 = .ok (.iconst 1, 1) := by decide +kernel
theorem dX11_damage_22 : decode cX11_damage 22 = .ok (.invokevirtual 90, 3) := by decide +kernel
theorem dX11_damage_25 : decode cX11_damage 25 = .ok (.ireturn, 1) := by decide +kernel
theorem dX11_orders_0 : decode cX11_orders 0 = .ok (.lconst 1, 1) := by decide +kernel
theorem dX11_orders_1 : decode cX11_orders 1 = .ok (.lstore_n 1, 1) := by decide +kernel
theorem dX11_orders_2 : decode cX11_orders 2 = .ok (.iconst 2, 1) := by decide +kernel
theorem dX11_orders_3 : decode cX11_orders 3 = .ok (.istore_n 3, 1) := by decide +kernel
theorem dX11_orders_4 : decode cX11_orders 4 = .ok (.iload_n 3, 1) := by decide +kernel
theorem dX11_orders_5 : decode cX11_orders 5 = .ok (.iload_n 0, 1) := by decide +kernel
theorem dX11_orders_6 : decode cX11_orders 6 = .ok (.if_icmp .gt 14, 3) := by decide +kernel
theorem dX11_orders_9 : decode cX11_orders 9 = .ok (.lload_n 1, 1) := by decide +kernel
theorem dX11_orders_10 : decode cX11_orders 10 = .ok (.iload_n 3, 1) := by decide +kernel
theorem dX11_orders_11 : decode cX11_orders 11 = .ok (.i2l, 1) := by decide +kernel
theorem dX11_orders_12 : decode cX11_orders 12 = .ok (.lmul, 1) := by decide +kernel
theorem dX11_orders_13 : decode cX11_orders 13 = .ok (.lstore_n 1, 1) := by decide +kernel
theorem dX11_orders_14 : decode cX11_orders 14 = .ok (.iinc 3 1, 3) := by decide +kernel
theorem dX11_orders_17 : decode cX11_orders 17 = .ok (.goto (-13), 3) := by decide +kernel
theorem dX11_orders_20 : decode cX11_orders 20 = .ok (.lload_n 1, 1) := by decide +kernel
theorem dX11_orders_21 : decode cX11_orders 21 = .ok (.lreturn, 1) := by decide +kernel
theorem dX11_guilt_0 : decode cX11_guilt 0 = .ok (.aload_n 0, 1) := by decide +kernel
theorem dX11_guilt_1 : decode cX11_guilt 1 = .ok (.iload_n 1, 1) := by decide +kernel
theorem dX11_guilt_2 : decode cX11_guilt 2 = .ok (.invokevirtual 305, 3) := by decide +kernel
theorem dX11_guilt_5 : decode cX11_guilt 5 = .ok (.ifCond .eq 28, 3) := by decide +kernel
theorem dX11_guilt_8 : decode cX11_guilt 8 = .ok (.aload_n 0, 1) := by decide +kernel
theorem dX11_guilt_9 : decode cX11_guilt 9 = .ok (.iload_n 2, 1) := by decide +kernel
theorem dX11_guilt_10 : decode cX11_guilt 10 = .ok (.invokevirtual 420, 3) := by decide +kernel
theorem dX11_guilt_13 : decode cX11_guilt 13 = .ok (.ifCond .eq 20, 3) := by decide +kernel
theorem dX11_guilt_16 : decode cX11_guilt 16 = .ok (.aload_n 0, 1) := by decide +kernel
theorem dX11_guilt_17 : decode cX11_guilt 17 = .ok (.iload_n 2, 1) := by decide +kernel
theorem dX11_guilt_18 : decode cX11_guilt 18 = .ok (.iload_n 1, 1) := by decide +kernel
theorem dX11_guilt_19 : decode cX11_guilt 19 = .ok (.invokevirtual 275, 3) := by decide +kernel
theorem dX11_guilt_22 : decode cX11_guilt 22 = .ok (.ifCond .eq 11, 3) := by decide +kernel
theorem dX11_guilt_25 : decode cX11_guilt 25 = .ok (.iload_n 2, 1) := by decide +kernel
theorem dX11_guilt_26 : decode cX11_guilt 26 = .ok (.invokestatic 358, 3) := by decide +kernel
theorem dX11_guilt_29 : decode cX11_guilt 29 = .ok (.iconst 5, 1) := by decide +kernel
theorem dX11_guilt_30 : decode cX11_guilt 30 = .ok (.if_icmp .le 9, 3) := by decide +kernel
theorem dX11_guilt_33 : decode cX11_guilt 33 = .ok (.aload_n 0, 1) := by decide +kernel
theorem dX11_guilt_34 : decode cX11_guilt 34 = .ok (.iconst 1, 1) := by decide +kernel
theorem dX11_guilt_35 : decode cX11_guilt 35 = .ok (.invokevirtual 103, 3) := by decide +kernel
theorem dX11_guilt_38 : decode cX11_guilt 38 = .ok (.ireturn, 1) := by decide +kernel
theorem dX11_guilt_39 : decode cX11_guilt 39 = .ok (.iload_n 2, 1) := by decide +kernel
theorem dX11_guilt_40 : decode cX11_guilt 40 = .ok (.invokestatic 358, 3) := by decide +kernel
theorem dX11_guilt_43 : decode cX11_guilt 43 = .ok (.istore_n 3, 1) := by decide +kernel
theorem dX11_guilt_44 : decode cX11_guilt 44 = .ok (.lconst 0, 1) := by decide +kernel
theorem dX11_guilt_45 : decode cX11_guilt 45 = .ok (.lstore 4, 2) := by decide +kernel
theorem dX11_guilt_47 : decode cX11_guilt 47 = .ok (.iconst 0, 1) := by decide +kernel
theorem dX11_guilt_48 : decode cX11_guilt 48 = .ok (.istore 6, 2) := by decide +kernel
theorem dX11_guilt_50 : decode cX11_guilt 50 = .ok (.iload 6, 2) := by decide +kernel
theorem dX11_guilt_52 : decode cX11_guilt 52 = .ok (.iload_n 2, 1) := by decide +kernel
theorem dX11_guilt_53 : decode cX11_guilt 53 = .ok (.if_icmp .gt 73, 3) := by decide +kernel
theorem dX11_guilt_56 : decode cX11_guilt 56 = .ok (.iload 6, 2) := by decide +kernel
theorem dX11_guilt_58 : decode cX11_guilt 58 = .ok (.iload_n 2, 1) := by decide +kernel
theorem dX11_guilt_59 : decode cX11_guilt 59 = .ok (.iconst (-1), 1) := by decide +kernel
theorem dX11_guilt_60 : decode cX11_guilt 60 = .ok (.ixor, 1) := by decide +kernel
theorem dX11_guilt_61 : decode cX11_guilt 61 = .ok (.iand, 1) := by decide +kernel
theorem dX11_guilt_62 : decode cX11_guilt 62 = .ok (.ifCond .ne 58, 3) := by decide +kernel
theorem dX11_guilt_65 : decode cX11_guilt 65 = .ok (.aload_n 0, 1) := by decide +kernel
theorem dX11_guilt_66 : decode cX11_guilt 66 = .ok (.iload 6, 2) := by decide +kernel
theorem dX11_guilt_68 : decode cX11_guilt 68 = .ok (.iload_n 1, 1) := by decide +kernel
theorem dX11_guilt_69 : decode cX11_guilt 69 = .ok (.invokevirtual 275, 3) := by decide +kernel
theorem dX11_guilt_72 : decode cX11_guilt 72 = .ok (.ifCond .ne 48, 3) := by decide +kernel
theorem dX11_guilt_75 : decode cX11_guilt 75 = .ok (.lload 4, 2) := by decide +kernel
theorem dX11_guilt_77 : decode cX11_guilt 77 = .ok (.iload 6, 2) := by decide +kernel
theorem dX11_guilt_79 : decode cX11_guilt 79 = .ok (.invokestatic 358, 3) := by decide +kernel
theorem dX11_guilt_82 : decode cX11_guilt 82 = .ok (.invokestatic 426, 3) := by decide +kernel
theorem dX11_guilt_85 : decode cX11_guilt 85 = .ok (.iload_n 3, 1) := by decide +kernel
theorem dX11_guilt_86 : decode cX11_guilt 86 = .ok (.iload 6, 2) := by decide +kernel
theorem dX11_guilt_88 : decode cX11_guilt 88 = .ok (.invokestatic 358, 3) := by decide +kernel
theorem dX11_guilt_91 : decode cX11_guilt 91 = .ok (.isub, 1) := by decide +kernel
theorem dX11_guilt_92 : decode cX11_guilt 92 = .ok (.iconst 1, 1) := by decide +kernel
theorem dX11_guilt_93 : decode cX11_guilt 93 = .ok (.isub, 1) := by decide +kernel
theorem dX11_guilt_94 : decode cX11_guilt 94 = .ok (.invokestatic 426, 3) := by decide +kernel
theorem dX11_guilt_97 : decode cX11_guilt 97 = .ok (.lmul, 1) := by decide +kernel
theorem dX11_guilt_98 : decode cX11_guilt 98 = .ok (.aload_n 0, 1) := by decide +kernel
theorem dX11_guilt_99 : decode cX11_guilt 99 = .ok (.iload 6, 2) := by decide +kernel
theorem dX11_guilt_101 : decode cX11_guilt 101 = .ok (.iconst 1, 1) := by decide +kernel
theorem dX11_guilt_102 : decode cX11_guilt 102 = .ok (.iload_n 1, 1) := by decide +kernel
theorem dX11_guilt_103 : decode cX11_guilt 103 = .ok (.ishl, 1) := by decide +kernel
theorem dX11_guilt_104 : decode cX11_guilt 104 = .ok (.ior, 1) := by decide +kernel
theorem dX11_guilt_105 : decode cX11_guilt 105 = .ok (.invokevirtual 423, 3) := by decide +kernel
theorem dX11_guilt_108 : decode cX11_guilt 108 = .ok (.aload_n 0, 1) := by decide +kernel
theorem dX11_guilt_109 : decode cX11_guilt 109 = .ok (.iload 6, 2) := by decide +kernel
theorem dX11_guilt_111 : decode cX11_guilt 111 = .ok (.invokevirtual 423, 3) := by decide +kernel
theorem dX11_guilt_114 : decode cX11_guilt 114 = .ok (.isub, 1) := by decide +kernel
theorem dX11_guilt_115 : decode cX11_guilt 115 = .ok (.i2l, 1) := by decide +kernel
theorem dX11_guilt_116 : decode cX11_guilt 116 = .ok (.lmul, 1) := by decide +kernel
theorem dX11_guilt_117 : decode cX11_guilt 117 = .ok (.ladd, 1) := by decide +kernel
theorem dX11_guilt_118 : decode cX11_guilt 118 = .ok (.lstore 4, 2) := by decide +kernel
theorem dX11_guilt_120 : decode cX11_guilt 120 = .ok (.iinc 6 1, 3) := by decide +kernel
theorem dX11_guilt_123 : decode cX11_guilt 123 = .ok (.goto (-73), 3) := by decide +kernel
theorem dX11_guilt_126 : decode cX11_guilt 126 = .ok (.aload_n 0, 1) := by decide +kernel
theorem dX11_guilt_127 : decode cX11_guilt 127 = .ok (.lload 4, 2) := by decide +kernel
theorem dX11_guilt_129 : decode cX11_guilt 129 = .ok (.iload_n 3, 1) := by decide +kernel
theorem dX11_guilt_130 : decode cX11_guilt 130 = .ok (.invokestatic 426, 3) := by decide +kernel
theorem dX11_guilt_133 : decode cX11_guilt 133 = .ok (.invokevirtual 430, 3) := by decide +kernel
theorem dX11_guilt_136 : decode cX11_guilt 136 = .ok (.ireturn, 1) := by decide +kernel
theorem dX11_laysPrint_0 : decode cX11_laysPrint 0 = .ok (.aload_n 0, 1) := by decide +kernel
theorem dX11_laysPrint_1 : decode cX11_laysPrint 1 = .ok (.sipush 3144, 3) := by decide +kernel
theorem dX11_laysPrint_4 : decode cX11_laysPrint 4 = .ok (.invokevirtual 361, 3) := by decide +kernel
theorem dX11_laysPrint_7 : decode cX11_laysPrint 7 = .ok (.aload_n 0, 1) := by decide +kernel
theorem dX11_laysPrint_8 : decode cX11_laysPrint 8 = .ok (.iconst 1, 1) := by decide +kernel
theorem dX11_laysPrint_9 : decode cX11_laysPrint 9 = .ok (.iload_n 1, 1) := by decide +kernel
theorem dX11_laysPrint_10 : decode cX11_laysPrint 10 = .ok (.ishl, 1) := by decide +kernel
theorem dX11_laysPrint_11 : decode cX11_laysPrint 11 = .ok (.putfield 47, 3) := by decide +kernel
theorem dX11_laysPrint_14 : decode cX11_laysPrint 14 = .ok (.aload_n 0, 1) := by decide +kernel
theorem dX11_laysPrint_15 : decode cX11_laysPrint 15 = .ok (.invokevirtual 353, 3) := by decide +kernel
theorem dX11_laysPrint_18 : decode cX11_laysPrint 18 = .ok (.pop, 1) := by decide +kernel
theorem dX11_laysPrint_19 : decode cX11_laysPrint 19 = .ok (.aload_n 0, 1) := by decide +kernel
theorem dX11_laysPrint_20 : decode cX11_laysPrint 20 = .ok (.bipush 12, 2) := by decide +kernel
theorem dX11_laysPrint_22 : decode cX11_laysPrint 22 = .ok (.invokevirtual 341, 3) := by decide +kernel
theorem dX11_laysPrint_25 : decode cX11_laysPrint 25 = .ok (.pop, 1) := by decide +kernel
theorem dX11_laysPrint_26 : decode cX11_laysPrint 26 = .ok (.iconst 0, 1) := by decide +kernel
theorem dX11_laysPrint_27 : decode cX11_laysPrint 27 = .ok (.istore_n 2, 1) := by decide +kernel
theorem dX11_laysPrint_28 : decode cX11_laysPrint 28 = .ok (.iload_n 2, 1) := by decide +kernel
theorem dX11_laysPrint_29 : decode cX11_laysPrint 29 = .ok (.aload_n 0, 1) := by decide +kernel
theorem dX11_laysPrint_30 : decode cX11_laysPrint 30 = .ok (.getfield 7, 3) := by decide +kernel
theorem dX11_laysPrint_33 : decode cX11_laysPrint 33 = .ok (.iconst 0, 1) := by decide +kernel
theorem dX11_laysPrint_34 : decode cX11_laysPrint 34 = .ok (.iaload, 1) := by decide +kernel
theorem dX11_laysPrint_35 : decode cX11_laysPrint 35 = .ok (.if_icmp .ge 22, 3) := by decide +kernel
theorem dX11_laysPrint_38 : decode cX11_laysPrint 38 = .ok (.aload_n 0, 1) := by decide +kernel
theorem dX11_laysPrint_39 : decode cX11_laysPrint 39 = .ok (.getfield 65, 3) := by decide +kernel
theorem dX11_laysPrint_42 : decode cX11_laysPrint 42 = .ok (.iload_n 2, 1) := by decide +kernel
theorem dX11_laysPrint_43 : decode cX11_laysPrint 43 = .ok (.aload_n 0, 1) := by decide +kernel
theorem dX11_laysPrint_44 : decode cX11_laysPrint 44 = .ok (.iload_n 2, 1) := by decide +kernel
theorem dX11_laysPrint_45 : decode cX11_laysPrint 45 = .ok (.bipush 6, 2) := by decide +kernel
theorem dX11_laysPrint_47 : decode cX11_laysPrint 47 = .ok (.invokevirtual 263, 3) := by decide +kernel
theorem dX11_laysPrint_50 : decode cX11_laysPrint 50 = .ok (.iastore, 1) := by decide +kernel
theorem dX11_laysPrint_51 : decode cX11_laysPrint 51 = .ok (.iinc 2 1, 3) := by decide +kernel
theorem dX11_laysPrint_54 : decode cX11_laysPrint 54 = .ok (.goto (-26), 3) := by decide +kernel
theorem dX11_laysPrint_57 : decode cX11_laysPrint 57 = .ok (.aload_n 0, 1) := by decide +kernel
theorem dX11_laysPrint_58 : decode cX11_laysPrint 58 = .ok (.iconst (-1), 1) := by decide +kernel
theorem dX11_laysPrint_59 : decode cX11_laysPrint 59 = .ok (.putfield 47, 3) := by decide +kernel
theorem dX11_laysPrint_62 : decode cX11_laysPrint 62 = .ok (.aload_n 0, 1) := by decide +kernel
theorem dX11_laysPrint_63 : decode cX11_laysPrint 63 = .ok (.sipush 3144, 3) := by decide +kernel
theorem dX11_laysPrint_66 : decode cX11_laysPrint 66 = .ok (.invokevirtual 364, 3) := by decide +kernel
theorem dX11_laysPrint_69 : decode cX11_laysPrint 69 = .ok (.return_, 1) := by decide +kernel
theorem dX11_wrongPrint_0 : decode cX11_wrongPrint 0 = .ok (.iload_n 1, 1) := by decide +kernel
theorem dX11_wrongPrint_1 : decode cX11_wrongPrint 1 = .ok (.invokestatic 107, 3) := by decide +kernel
theorem dX11_wrongPrint_4 : decode cX11_wrongPrint 4 = .ok (.ifCond .ne 7, 3) := by decide +kernel
theorem dX11_wrongPrint_7 : decode cX11_wrongPrint 7 = .ok (.iconst 1, 1) := by decide +kernel
theorem dX11_wrongPrint_8 : decode cX11_wrongPrint 8 = .ok (.goto 37, 3) := by decide +kernel
theorem dX11_wrongPrint_11 : decode cX11_wrongPrint 11 = .ok (.aload_n 0, 1) := by decide +kernel
theorem dX11_wrongPrint_12 : decode cX11_wrongPrint 12 = .ok (.getfield 24, 3) := by decide +kernel
theorem dX11_wrongPrint_15 : decode cX11_wrongPrint 15 = .ok (.iload_n 1, 1) := by decide +kernel
theorem dX11_wrongPrint_16 : decode cX11_wrongPrint 16 = .ok (.iaload, 1) := by decide +kernel
theorem dX11_wrongPrint_17 : decode cX11_wrongPrint 17 = .ok (.iconst (-1), 1) := by decide +kernel
theorem dX11_wrongPrint_18 : decode cX11_wrongPrint 18 = .ok (.if_icmp .ne 7, 3) := by decide +kernel
theorem dX11_wrongPrint_21 : decode cX11_wrongPrint 21 = .ok (.iconst 2, 1) := by decide +kernel
theorem dX11_wrongPrint_22 : decode cX11_wrongPrint 22 = .ok (.goto 23, 3) := by decide +kernel
theorem dX11_wrongPrint_25 : decode cX11_wrongPrint 25 = .ok (.aload_n 0, 1) := by decide +kernel
theorem dX11_wrongPrint_26 : decode cX11_wrongPrint 26 = .ok (.getfield 24, 3) := by decide +kernel
theorem dX11_wrongPrint_29 : decode cX11_wrongPrint 29 = .ok (.iload_n 1, 1) := by decide +kernel
theorem dX11_wrongPrint_30 : decode cX11_wrongPrint 30 = .ok (.iaload, 1) := by decide +kernel
theorem dX11_wrongPrint_31 : decode cX11_wrongPrint 31 = .ok (.aload_n 0, 1) := by decide +kernel
theorem dX11_wrongPrint_32 : decode cX11_wrongPrint 32 = .ok (.getfield 7, 3) := by decide +kernel
theorem dX11_wrongPrint_35 : decode cX11_wrongPrint 35 = .ok (.iconst 0, 1) := by decide +kernel
theorem dX11_wrongPrint_36 : decode cX11_wrongPrint 36 = .ok (.iaload, 1) := by decide +kernel
theorem dX11_wrongPrint_37 : decode cX11_wrongPrint 37 = .ok (.if_icmp .ge 7, 3) := by decide +kernel
theorem dX11_wrongPrint_40 : decode cX11_wrongPrint 40 = .ok (.iconst 3, 1) := by decide +kernel
theorem dX11_wrongPrint_41 : decode cX11_wrongPrint 41 = .ok (.goto 4, 3) := by decide +kernel
theorem dX11_wrongPrint_44 : decode cX11_wrongPrint 44 = .ok (.iconst 0, 1) := by decide +kernel
theorem dX11_wrongPrint_45 : decode cX11_wrongPrint 45 = .ok (.ireturn, 1) := by decide +kernel
theorem dX11_print_0 : decode cX11_print 0 = .ok (.aload_n 0, 1) := by decide +kernel
theorem dX11_print_1 : decode cX11_print 1 = .ok (.iload_n 1, 1) := by decide +kernel
theorem dX11_print_2 : decode cX11_print 2 = .ok (.invokevirtual 305, 3) := by decide +kernel
theorem dX11_print_5 : decode cX11_print 5 = .ok (.ifCond .eq 11, 3) := by decide +kernel
theorem dX11_print_8 : decode cX11_print 8 = .ok (.aload_n 0, 1) := by decide +kernel
theorem dX11_print_9 : decode cX11_print 9 = .ok (.iload_n 2, 1) := by decide +kernel
theorem dX11_print_10 : decode cX11_print 10 = .ok (.invokevirtual 434, 3) := by decide +kernel
theorem dX11_print_13 : decode cX11_print 13 = .ok (.goto 4, 3) := by decide +kernel
theorem dX11_print_16 : decode cX11_print 16 = .ok (.iconst 1, 1) := by decide +kernel
theorem dX11_print_17 : decode cX11_print 17 = .ok (.istore_n 3, 1) := by decide +kernel
theorem dX11_print_18 : decode cX11_print 18 = .ok (.iload_n 3, 1) := by decide +kernel
theorem dX11_print_19 : decode cX11_print 19 = .ok (.ifCond .le 9, 3) := by decide +kernel
theorem dX11_print_22 : decode cX11_print 22 = .ok (.aload_n 0, 1) := by decide +kernel
theorem dX11_print_23 : decode cX11_print 23 = .ok (.iload_n 3, 1) := by decide +kernel
theorem dX11_print_24 : decode cX11_print 24 = .ok (.invokevirtual 90, 3) := by decide +kernel
theorem dX11_print_27 : decode cX11_print 27 = .ok (.ireturn, 1) := by decide +kernel
theorem dX11_print_28 : decode cX11_print 28 = .ok (.aload_n 0, 1) := by decide +kernel
theorem dX11_print_29 : decode cX11_print 29 = .ok (.iload_n 1, 1) := by decide +kernel
theorem dX11_print_30 : decode cX11_print 30 = .ok (.invokevirtual 437, 3) := by decide +kernel
theorem dX11_print_33 : decode cX11_print 33 = .ok (.iconst 0, 1) := by decide +kernel
theorem dX11_print_34 : decode cX11_print 34 = .ok (.istore 4, 2) := by decide +kernel
theorem dX11_print_36 : decode cX11_print 36 = .ok (.iload 4, 2) := by decide +kernel
theorem dX11_print_38 : decode cX11_print 38 = .ok (.aload_n 0, 1) := by decide +kernel
theorem dX11_print_39 : decode cX11_print 39 = .ok (.getfield 7, 3) := by decide +kernel
theorem dX11_print_42 : decode cX11_print 42 = .ok (.iconst 0, 1) := by decide +kernel
theorem dX11_print_43 : decode cX11_print 43 = .ok (.iaload, 1) := by decide +kernel
theorem dX11_print_44 : decode cX11_print 44 = .ok (.if_icmp .ge 38, 3) := by decide +kernel
theorem dX11_print_47 : decode cX11_print 47 = .ok (.aload_n 0, 1) := by decide +kernel
theorem dX11_print_48 : decode cX11_print 48 = .ok (.getfield 27, 3) := by decide +kernel
theorem dX11_print_51 : decode cX11_print 51 = .ok (.bipush 60, 2) := by decide +kernel
theorem dX11_print_53 : decode cX11_print 53 = .ok (.iload_n 2, 1) := by decide +kernel
theorem dX11_print_54 : decode cX11_print 54 = .ok (.imul, 1) := by decide +kernel
theorem dX11_print_55 : decode cX11_print 55 = .ok (.iload 4, 2) := by decide +kernel
theorem dX11_print_57 : decode cX11_print 57 = .ok (.iadd, 1) := by decide +kernel
theorem dX11_print_58 : decode cX11_print 58 = .ok (.aload_n 0, 1) := by decide +kernel
theorem dX11_print_59 : decode cX11_print 59 = .ok (.getfield 65, 3) := by decide +kernel
theorem dX11_print_62 : decode cX11_print 62 = .ok (.iload 4, 2) := by decide +kernel
theorem dX11_print_64 : decode cX11_print 64 = .ok (.iaload, 1) := by decide +kernel
theorem dX11_print_65 : decode cX11_print 65 = .ok (.i2l, 1) := by decide +kernel
theorem dX11_print_66 : decode cX11_print 66 = .ok (.aload_n 0, 1) := by decide +kernel
theorem dX11_print_67 : decode cX11_print 67 = .ok (.getfield 21, 3) := by decide +kernel
theorem dX11_print_70 : decode cX11_print 70 = .ok (.iload_n 2, 1) := by decide +kernel
theorem dX11_print_71 : decode cX11_print 71 = .ok (.iaload, 1) := by decide +kernel
theorem dX11_print_72 : decode cX11_print 72 = .ok (.invokestatic 114, 3) := by decide +kernel
theorem dX11_print_75 : decode cX11_print 75 = .ok (.lastore, 1) := by decide +kernel
theorem dX11_print_76 : decode cX11_print 76 = .ok (.iinc 4 1, 3) := by decide +kernel
theorem dX11_print_79 : decode cX11_print 79 = .ok (.goto (-43), 3) := by decide +kernel
theorem dX11_print_82 : decode cX11_print 82 = .ok (.aload_n 0, 1) := by decide +kernel
theorem dX11_print_83 : decode cX11_print 83 = .ok (.aload_n 0, 1) := by decide +kernel
theorem dX11_print_84 : decode cX11_print 84 = .ok (.getfield 7, 3) := by decide +kernel
theorem dX11_print_87 : decode cX11_print 87 = .ok (.iconst 0, 1) := by decide +kernel
theorem dX11_print_88 : decode cX11_print 88 = .ok (.iaload, 1) := by decide +kernel
theorem dX11_print_89 : decode cX11_print 89 = .ok (.invokevirtual 94, 3) := by decide +kernel
theorem dX11_print_92 : decode cX11_print 92 = .ok (.ireturn, 1) := by decide +kernel
theorem dX11_suspects_0 : decode cX11_suspects 0 = .ok (.aload_n 0, 1) := by decide +kernel
theorem dX11_suspects_1 : decode cX11_suspects 1 = .ok (.iload_n 1, 1) := by decide +kernel
theorem dX11_suspects_2 : decode cX11_suspects 2 = .ok (.invokevirtual 434, 3) := by decide +kernel
theorem dX11_suspects_5 : decode cX11_suspects 5 = .ok (.istore_n 2, 1) := by decide +kernel
theorem dX11_suspects_6 : decode cX11_suspects 6 = .ok (.iload_n 2, 1) := by decide +kernel
theorem dX11_suspects_7 : decode cX11_suspects 7 = .ok (.ifCond .le 9, 3) := by decide +kernel
theorem dX11_suspects_10 : decode cX11_suspects 10 = .ok (.aload_n 0, 1) := by decide +kernel
theorem dX11_suspects_11 : decode cX11_suspects 11 = .ok (.iload_n 2, 1) := by decide +kernel
theorem dX11_suspects_12 : decode cX11_suspects 12 = .ok (.invokevirtual 90, 3) := by decide +kernel
theorem dX11_suspects_15 : decode cX11_suspects 15 = .ok (.ireturn, 1) := by decide +kernel
theorem dX11_suspects_16 : decode cX11_suspects 16 = .ok (.iconst 0, 1) := by decide +kernel
theorem dX11_suspects_17 : decode cX11_suspects 17 = .ok (.istore_n 3, 1) := by decide +kernel
theorem dX11_suspects_18 : decode cX11_suspects 18 = .ok (.iconst 0, 1) := by decide +kernel
theorem dX11_suspects_19 : decode cX11_suspects 19 = .ok (.istore 4, 2) := by decide +kernel
theorem dX11_suspects_21 : decode cX11_suspects 21 = .ok (.iload 4, 2) := by decide +kernel
theorem dX11_suspects_23 : decode cX11_suspects 23 = .ok (.aload_n 0, 1) := by decide +kernel
theorem dX11_suspects_24 : decode cX11_suspects 24 = .ok (.getfield 7, 3) := by decide +kernel
theorem dX11_suspects_27 : decode cX11_suspects 27 = .ok (.iconst 1, 1) := by decide +kernel
theorem dX11_suspects_28 : decode cX11_suspects 28 = .ok (.iaload, 1) := by decide +kernel
theorem dX11_suspects_29 : decode cX11_suspects 29 = .ok (.if_icmp .ge 105, 3) := by decide +kernel
theorem dX11_suspects_32 : decode cX11_suspects 32 = .ok (.aload_n 0, 1) := by decide +kernel
theorem dX11_suspects_33 : decode cX11_suspects 33 = .ok (.iload 4, 2) := by decide +kernel
theorem dX11_suspects_35 : decode cX11_suspects 35 = .ok (.bipush 7, 2) := by decide +kernel
theorem dX11_suspects_37 : decode cX11_suspects 37 = .ok (.invokevirtual 272, 3) := by decide +kernel
theorem dX11_suspects_40 : decode cX11_suspects 40 = .ok (.iconst 1, 1) := by decide +kernel
theorem dX11_suspects_41 : decode cX11_suspects 41 = .ok (.if_icmp .ne 6, 3) := by decide +kernel
theorem dX11_suspects_44 : decode cX11_suspects 44 = .ok (.goto 84, 3) := by decide +kernel
theorem dX11_suspects_47 : decode cX11_suspects 47 = .ok (.aload_n 0, 1) := by decide +kernel
theorem dX11_suspects_48 : decode cX11_suspects 48 = .ok (.iload 4, 2) := by decide +kernel
theorem dX11_suspects_50 : decode cX11_suspects 50 = .ok (.invokevirtual 437, 3) := by decide +kernel
theorem dX11_suspects_53 : decode cX11_suspects 53 = .ok (.iconst 1, 1) := by decide +kernel
theorem dX11_suspects_54 : decode cX11_suspects 54 = .ok (.istore 5, 2) := by decide +kernel
theorem dX11_suspects_56 : decode cX11_suspects 56 = .ok (.iconst 0, 1) := by decide +kernel
theorem dX11_suspects_57 : decode cX11_suspects 57 = .ok (.istore 6, 2) := by decide +kernel
theorem dX11_suspects_59 : decode cX11_suspects 59 = .ok (.iload 6, 2) := by decide +kernel
theorem dX11_suspects_61 : decode cX11_suspects 61 = .ok (.aload_n 0, 1) := by decide +kernel
theorem dX11_suspects_62 : decode cX11_suspects 62 = .ok (.getfield 7, 3) := by decide +kernel
theorem dX11_suspects_65 : decode cX11_suspects 65 = .ok (.iconst 0, 1) := by decide +kernel
theorem dX11_suspects_66 : decode cX11_suspects 66 = .ok (.iaload, 1) := by decide +kernel
theorem dX11_suspects_67 : decode cX11_suspects 67 = .ok (.if_icmp .ge 45, 3) := by decide +kernel
theorem dX11_suspects_70 : decode cX11_suspects 70 = .ok (.iload 5, 2) := by decide +kernel
theorem dX11_suspects_72 : decode cX11_suspects 72 = .ok (.ifCond .eq 31, 3) := by decide +kernel
theorem dX11_suspects_75 : decode cX11_suspects 75 = .ok (.aload_n 0, 1) := by decide +kernel
theorem dX11_suspects_76 : decode cX11_suspects 76 = .ok (.getfield 27, 3) := by decide +kernel
theorem dX11_suspects_79 : decode cX11_suspects 79 = .ok (.bipush 60, 2) := by decide +kernel
theorem dX11_suspects_81 : decode cX11_suspects 81 = .ok (.iload_n 1, 1) := by decide +kernel
theorem dX11_suspects_82 : decode cX11_suspects 82 = .ok (.imul, 1) := by decide +kernel
theorem dX11_suspects_83 : decode cX11_suspects 83 = .ok (.iload 6, 2) := by decide +kernel
theorem dX11_suspects_85 : decode cX11_suspects 85 = .ok (.iadd, 1) := by decide +kernel
theorem dX11_suspects_86 : decode cX11_suspects 86 = .ok (.laload, 1) := by decide +kernel
theorem dX11_suspects_87 : decode cX11_suspects 87 = .ok (.aload_n 0, 1) := by decide +kernel
theorem dX11_suspects_88 : decode cX11_suspects 88 = .ok (.getfield 65, 3) := by decide +kernel
theorem dX11_suspects_91 : decode cX11_suspects 91 = .ok (.iload 6, 2) := by decide +kernel
theorem dX11_suspects_93 : decode cX11_suspects 93 = .ok (.iaload, 1) := by decide +kernel
theorem dX11_suspects_94 : decode cX11_suspects 94 = .ok (.i2l, 1) := by decide +kernel
theorem dX11_suspects_95 : decode cX11_suspects 95 = .ok (.lcmp, 1) := by decide +kernel
theorem dX11_suspects_96 : decode cX11_suspects 96 = .ok (.ifCond .ne 7, 3) := by decide +kernel
theorem dX11_suspects_99 : decode cX11_suspects 99 = .ok (.iconst 1, 1) := by decide +kernel
theorem dX11_suspects_100 : decode cX11_suspects 100 = .ok (.goto 4, 3) := by decide +kernel
theorem dX11_suspects_103 : decode cX11_suspects 103 = .ok (.iconst 0, 1) := by decide +kernel
theorem dX11_suspects_104 : decode cX11_suspects 104 = .ok (.istore 5, 2) := by decide +kernel
theorem dX11_suspects_106 : decode cX11_suspects 106 = .ok (.iinc 6 1, 3) := by decide +kernel
theorem dX11_suspects_109 : decode cX11_suspects 109 = .ok (.goto (-50), 3) := by decide +kernel
theorem dX11_suspects_112 : decode cX11_suspects 112 = .ok (.iload_n 3, 1) := by decide +kernel
theorem dX11_suspects_113 : decode cX11_suspects 113 = .ok (.iload 5, 2) := by decide +kernel
theorem dX11_suspects_115 : decode cX11_suspects 115 = .ok (.ifCond .eq 10, 3) := by decide +kernel
theorem dX11_suspects_118 : decode cX11_suspects 118 = .ok (.iconst 1, 1) := by decide +kernel
theorem dX11_suspects_119 : decode cX11_suspects 119 = .ok (.iload 4, 2) := by decide +kernel
theorem dX11_suspects_121 : decode cX11_suspects 121 = .ok (.ishl, 1) := by decide +kernel
theorem dX11_suspects_122 : decode cX11_suspects 122 = .ok (.goto 4, 3) := by decide +kernel
theorem dX11_suspects_125 : decode cX11_suspects 125 = .ok (.iconst 0, 1) := by decide +kernel
theorem dX11_suspects_126 : decode cX11_suspects 126 = .ok (.ior, 1) := by decide +kernel
theorem dX11_suspects_127 : decode cX11_suspects 127 = .ok (.istore_n 3, 1) := by decide +kernel
theorem dX11_suspects_128 : decode cX11_suspects 128 = .ok (.iinc 4 1, 3) := by decide +kernel
theorem dX11_suspects_131 : decode cX11_suspects 131 = .ok (.goto (-110), 3) := by decide +kernel
theorem dX11_suspects_134 : decode cX11_suspects 134 = .ok (.aload_n 0, 1) := by decide +kernel
theorem dX11_suspects_135 : decode cX11_suspects 135 = .ok (.iload_n 3, 1) := by decide +kernel
theorem dX11_suspects_136 : decode cX11_suspects 136 = .ok (.invokevirtual 94, 3) := by decide +kernel
theorem dX11_suspects_139 : decode cX11_suspects 139 = .ok (.ireturn, 1) := by decide +kernel
theorem dX11_printsOf_0 : decode cX11_printsOf 0 = .ok (.iconst 0, 1) := by decide +kernel
theorem dX11_printsOf_1 : decode cX11_printsOf 1 = .ok (.istore_n 2, 1) := by decide +kernel
theorem dX11_printsOf_2 : decode cX11_printsOf 2 = .ok (.iconst 0, 1) := by decide +kernel
theorem dX11_printsOf_3 : decode cX11_printsOf 3 = .ok (.istore_n 3, 1) := by decide +kernel
theorem dX11_printsOf_4 : decode cX11_printsOf 4 = .ok (.iload_n 3, 1) := by decide +kernel
theorem dX11_printsOf_5 : decode cX11_printsOf 5 = .ok (.aload_n 0, 1) := by decide +kernel
theorem dX11_printsOf_6 : decode cX11_printsOf 6 = .ok (.getfield 7, 3) := by decide +kernel
theorem dX11_printsOf_9 : decode cX11_printsOf 9 = .ok (.iconst 1, 1) := by decide +kernel
theorem dX11_printsOf_10 : decode cX11_printsOf 10 = .ok (.iaload, 1) := by decide +kernel
theorem dX11_printsOf_11 : decode cX11_printsOf 11 = .ok (.if_icmp .ge 106, 3) := by decide +kernel
theorem dX11_printsOf_14 : decode cX11_printsOf 14 = .ok (.aload_n 0, 1) := by decide +kernel
theorem dX11_printsOf_15 : decode cX11_printsOf 15 = .ok (.getfield 68, 3) := by decide +kernel
theorem dX11_printsOf_18 : decode cX11_printsOf 18 = .ok (.iload_n 3, 1) := by decide +kernel
theorem dX11_printsOf_19 : decode cX11_printsOf 19 = .ok (.iconst (-1), 1) := by decide +kernel
theorem dX11_printsOf_20 : decode cX11_printsOf 20 = .ok (.iastore, 1) := by decide +kernel
theorem dX11_printsOf_21 : decode cX11_printsOf 21 = .ok (.aload_n 0, 1) := by decide +kernel
theorem dX11_printsOf_22 : decode cX11_printsOf 22 = .ok (.iload_n 3, 1) := by decide +kernel
theorem dX11_printsOf_23 : decode cX11_printsOf 23 = .ok (.bipush 7, 2) := by decide +kernel
theorem dX11_printsOf_25 : decode cX11_printsOf 25 = .ok (.invokevirtual 272, 3) := by decide +kernel
theorem dX11_printsOf_28 : decode cX11_printsOf 28 = .ok (.iconst 1, 1) := by decide +kernel
theorem dX11_printsOf_29 : decode cX11_printsOf 29 = .ok (.if_icmp .ne 6, 3) := by decide +kernel
theorem dX11_printsOf_32 : decode cX11_printsOf 32 = .ok (.goto 79, 3) := by decide +kernel
theorem dX11_printsOf_35 : decode cX11_printsOf 35 = .ok (.aload_n 0, 1) := by decide +kernel
theorem dX11_printsOf_36 : decode cX11_printsOf 36 = .ok (.iload_n 3, 1) := by decide +kernel
theorem dX11_printsOf_37 : decode cX11_printsOf 37 = .ok (.invokevirtual 437, 3) := by decide +kernel
theorem dX11_printsOf_40 : decode cX11_printsOf 40 = .ok (.iconst 1, 1) := by decide +kernel
theorem dX11_printsOf_41 : decode cX11_printsOf 41 = .ok (.istore 4, 2) := by decide +kernel
theorem dX11_printsOf_43 : decode cX11_printsOf 43 = .ok (.iconst 0, 1) := by decide +kernel
theorem dX11_printsOf_44 : decode cX11_printsOf 44 = .ok (.istore 5, 2) := by decide +kernel
theorem dX11_printsOf_46 : decode cX11_printsOf 46 = .ok (.iload 5, 2) := by decide +kernel
theorem dX11_printsOf_48 : decode cX11_printsOf 48 = .ok (.iload_n 3, 1) := by decide +kernel
theorem dX11_printsOf_49 : decode cX11_printsOf 49 = .ok (.if_icmp .ge 37, 3) := by decide +kernel
theorem dX11_printsOf_52 : decode cX11_printsOf 52 = .ok (.iload 4, 2) := by decide +kernel
theorem dX11_printsOf_54 : decode cX11_printsOf 54 = .ok (.ifCond .eq 23, 3) := by decide +kernel
theorem dX11_printsOf_57 : decode cX11_printsOf 57 = .ok (.aload_n 0, 1) := by decide +kernel
theorem dX11_printsOf_58 : decode cX11_printsOf 58 = .ok (.getfield 68, 3) := by decide +kernel
theorem dX11_printsOf_61 : decode cX11_printsOf 61 = .ok (.iload 5, 2) := by decide +kernel
theorem dX11_printsOf_63 : decode cX11_printsOf 63 = .ok (.iaload, 1) := by decide +kernel
theorem dX11_printsOf_64 : decode cX11_printsOf 64 = .ok (.aload_n 0, 1) := by decide +kernel
theorem dX11_printsOf_65 : decode cX11_printsOf 65 = .ok (.getfield 65, 3) := by decide +kernel
theorem dX11_printsOf_68 : decode cX11_printsOf 68 = .ok (.iload_n 1, 1) := by decide +kernel
theorem dX11_printsOf_69 : decode cX11_printsOf 69 = .ok (.iaload, 1) := by decide +kernel
theorem dX11_printsOf_70 : decode cX11_printsOf 70 = .ok (.if_icmp .eq 7, 3) := by decide +kernel
theorem dX11_printsOf_73 : decode cX11_printsOf 73 = .ok (.iconst 1, 1) := by decide +kernel
theorem dX11_printsOf_74 : decode cX11_printsOf 74 = .ok (.goto 4, 3) := by decide +kernel
theorem dX11_printsOf_77 : decode cX11_printsOf 77 = .ok (.iconst 0, 1) := by decide +kernel
theorem dX11_printsOf_78 : decode cX11_printsOf 78 = .ok (.istore 4, 2) := by decide +kernel
theorem dX11_printsOf_80 : decode cX11_printsOf 80 = .ok (.iinc 5 1, 3) := by decide +kernel
theorem dX11_printsOf_83 : decode cX11_printsOf 83 = .ok (.goto (-37), 3) := by decide +kernel
theorem dX11_printsOf_86 : decode cX11_printsOf 86 = .ok (.aload_n 0, 1) := by decide +kernel
theorem dX11_printsOf_87 : decode cX11_printsOf 87 = .ok (.getfield 68, 3) := by decide +kernel
theorem dX11_printsOf_90 : decode cX11_printsOf 90 = .ok (.iload_n 3, 1) := by decide +kernel
theorem dX11_printsOf_91 : decode cX11_printsOf 91 = .ok (.aload_n 0, 1) := by decide +kernel
theorem dX11_printsOf_92 : decode cX11_printsOf 92 = .ok (.getfield 65, 3) := by decide +kernel
theorem dX11_printsOf_95 : decode cX11_printsOf 95 = .ok (.iload_n 1, 1) := by decide +kernel
theorem dX11_printsOf_96 : decode cX11_printsOf 96 = .ok (.iaload, 1) := by decide +kernel
theorem dX11_printsOf_97 : decode cX11_printsOf 97 = .ok (.iastore, 1) := by decide +kernel
theorem dX11_printsOf_98 : decode cX11_printsOf 98 = .ok (.iload_n 2, 1) := by decide +kernel
theorem dX11_printsOf_99 : decode cX11_printsOf 99 = .ok (.iload 4, 2) := by decide +kernel
theorem dX11_printsOf_101 : decode cX11_printsOf 101 = .ok (.ifCond .eq 7, 3) := by decide +kernel
theorem dX11_printsOf_104 : decode cX11_printsOf 104 = .ok (.iconst 1, 1) := by decide +kernel
theorem dX11_printsOf_105 : decode cX11_printsOf 105 = .ok (.goto 4, 3) := by decide +kernel
theorem dX11_printsOf_108 : decode cX11_printsOf 108 = .ok (.iconst 0, 1) := by decide +kernel
theorem dX11_printsOf_109 : decode cX11_printsOf 109 = .ok (.iadd, 1) := by decide +kernel
theorem dX11_printsOf_110 : decode cX11_printsOf 110 = .ok (.istore_n 2, 1) := by decide +kernel
theorem dX11_printsOf_111 : decode cX11_printsOf 111 = .ok (.iinc 3 1, 3) := by decide +kernel
theorem dX11_printsOf_114 : decode cX11_printsOf 114 = .ok (.goto (-110), 3) := by decide +kernel
theorem dX11_printsOf_117 : decode cX11_printsOf 117 = .ok (.iload_n 2, 1) := by decide +kernel
theorem dX11_printsOf_118 : decode cX11_printsOf 118 = .ok (.ireturn, 1) := by decide +kernel
theorem dX11_telling_0 : decode cX11_telling 0 = .ok (.iconst (-1), 1) := by decide +kernel
theorem dX11_telling_1 : decode cX11_telling 1 = .ok (.istore_n 1, 1) := by decide +kernel
theorem dX11_telling_2 : decode cX11_telling 2 = .ok (.iconst (-1), 1) := by decide +kernel
theorem dX11_telling_3 : decode cX11_telling 3 = .ok (.istore_n 2, 1) := by decide +kernel
theorem dX11_telling_4 : decode cX11_telling 4 = .ok (.iconst 0, 1) := by decide +kernel
theorem dX11_telling_5 : decode cX11_telling 5 = .ok (.istore_n 3, 1) := by decide +kernel
theorem dX11_telling_6 : decode cX11_telling 6 = .ok (.iload_n 3, 1) := by decide +kernel
theorem dX11_telling_7 : decode cX11_telling 7 = .ok (.aload_n 0, 1) := by decide +kernel
theorem dX11_telling_8 : decode cX11_telling 8 = .ok (.getfield 7, 3) := by decide +kernel
theorem dX11_telling_11 : decode cX11_telling 11 = .ok (.iconst 0, 1) := by decide +kernel
theorem dX11_telling_12 : decode cX11_telling 12 = .ok (.iaload, 1) := by decide +kernel
theorem dX11_telling_13 : decode cX11_telling 13 = .ok (.if_icmp .ge 30, 3) := by decide +kernel
theorem dX11_telling_16 : decode cX11_telling 16 = .ok (.aload_n 0, 1) := by decide +kernel
theorem dX11_telling_17 : decode cX11_telling 17 = .ok (.iload_n 3, 1) := by decide +kernel
theorem dX11_telling_18 : decode cX11_telling 18 = .ok (.invokevirtual 440, 3) := by decide +kernel
theorem dX11_telling_21 : decode cX11_telling 21 = .ok (.istore 4, 2) := by decide +kernel
theorem dX11_telling_23 : decode cX11_telling 23 = .ok (.iload 4, 2) := by decide +kernel
theorem dX11_telling_25 : decode cX11_telling 25 = .ok (.iload_n 2, 1) := by decide +kernel
theorem dX11_telling_26 : decode cX11_telling 26 = .ok (.if_icmp .gt 6, 3) := by decide +kernel
theorem dX11_telling_29 : decode cX11_telling 29 = .ok (.goto 8, 3) := by decide +kernel
theorem dX11_telling_32 : decode cX11_telling 32 = .ok (.iload 4, 2) := by decide +kernel
theorem dX11_telling_34 : decode cX11_telling 34 = .ok (.istore_n 2, 1) := by decide +kernel
theorem dX11_telling_35 : decode cX11_telling 35 = .ok (.iload_n 3, 1) := by decide +kernel
theorem dX11_telling_36 : decode cX11_telling 36 = .ok (.istore_n 1, 1) := by decide +kernel
theorem dX11_telling_37 : decode cX11_telling 37 = .ok (.iinc 3 1, 3) := by decide +kernel
theorem dX11_telling_40 : decode cX11_telling 40 = .ok (.goto (-34), 3) := by decide +kernel
theorem dX11_telling_43 : decode cX11_telling 43 = .ok (.aload_n 0, 1) := by decide +kernel
theorem dX11_telling_44 : decode cX11_telling 44 = .ok (.iload_n 1, 1) := by decide +kernel
theorem dX11_telling_45 : decode cX11_telling 45 = .ok (.invokevirtual 317, 3) := by decide +kernel
theorem dX11_telling_48 : decode cX11_telling 48 = .ok (.ireturn, 1) := by decide +kernel
theorem dX11_prints_0 : decode cX11_prints 0 = .ok (.aload_n 0, 1) := by decide +kernel
theorem dX11_prints_1 : decode cX11_prints 1 = .ok (.iload_n 1, 1) := by decide +kernel
theorem dX11_prints_2 : decode cX11_prints 2 = .ok (.invokevirtual 302, 3) := by decide +kernel
theorem dX11_prints_5 : decode cX11_prints 5 = .ok (.ifCond .eq 15, 3) := by decide +kernel
theorem dX11_prints_8 : decode cX11_prints 8 = .ok (.aload_n 0, 1) := by decide +kernel
theorem dX11_prints_9 : decode cX11_prints 9 = .ok (.aload_n 0, 1) := by decide +kernel
theorem dX11_prints_10 : decode cX11_prints 10 = .ok (.iload_n 1, 1) := by decide +kernel
theorem dX11_prints_11 : decode cX11_prints 11 = .ok (.invokevirtual 440, 3) := by decide +kernel
theorem dX11_prints_14 : decode cX11_prints 14 = .ok (.invokevirtual 94, 3) := by decide +kernel
theorem dX11_prints_17 : decode cX11_prints 17 = .ok (.goto 8, 3) := by decide +kernel
theorem dX11_prints_20 : decode cX11_prints 20 = .ok (.aload_n 0, 1) := by decide +kernel
theorem dX11_prints_21 : decode cX11_prints 21 = .ok (.iconst 1, 1) := by decide +kernel
theorem dX11_prints_22 : decode cX11_prints 22 = .ok (.invokevirtual 90, 3) := by decide +kernel
theorem dX11_prints_25 : decode cX11_prints 25 = .ok (.ireturn, 1) := by decide +kernel
theorem dX11_draw_0 : decode cX11_draw 0 = .ok (.aload_n 0, 1) := by decide +kernel
theorem dX11_draw_1 : decode cX11_draw 1 = .ok (.aload_n 0, 1) := by decide +kernel
theorem dX11_draw_2 : decode cX11_draw 2 = .ok (.getfield 443, 3) := by decide +kernel
theorem dX11_draw_5 : decode cX11_draw 5 = .ok (.sipush 3011, 3) := by decide +kernel
theorem dX11_draw_8 : decode cX11_draw 8 = .ok (.imul, 1) := by decide +kernel
theorem dX11_draw_9 : decode cX11_draw 9 = .ok (.sipush 11213, 3) := by decide +kernel
theorem dX11_draw_12 : decode cX11_draw 12 = .ok (.iadd, 1) := by decide +kernel
theorem dX11_draw_13 : decode cX11_draw 13 = .ok (.ldc_w 446, 3) := by decide +kernel
theorem dX11_draw_16 : decode cX11_draw 16 = .ok (.irem, 1) := by decide +kernel
theorem dX11_draw_17 : decode cX11_draw 17 = .ok (.putfield 443, 3) := by decide +kernel
theorem dX11_draw_20 : decode cX11_draw 20 = .ok (.aload_n 0, 1) := by decide +kernel
theorem dX11_draw_21 : decode cX11_draw 21 = .ok (.getfield 443, 3) := by decide +kernel
theorem dX11_draw_24 : decode cX11_draw 24 = .ok (.bipush 8, 2) := by decide +kernel
theorem dX11_draw_26 : decode cX11_draw 26 = .ok (.idiv, 1) := by decide +kernel
theorem dX11_draw_27 : decode cX11_draw 27 = .ok (.iload_n 1, 1) := by decide +kernel
theorem dX11_draw_28 : decode cX11_draw 28 = .ok (.irem, 1) := by decide +kernel
theorem dX11_draw_29 : decode cX11_draw 29 = .ok (.ireturn, 1) := by decide +kernel
theorem dX11_hoursGo_0 : decode cX11_hoursGo 0 = .ok (.aload_n 0, 1) := by decide +kernel
theorem dX11_hoursGo_1 : decode cX11_hoursGo 1 = .ok (.getfield 7, 3) := by decide +kernel
theorem dX11_hoursGo_4 : decode cX11_hoursGo 4 = .ok (.iconst 3, 1) := by decide +kernel
theorem dX11_hoursGo_5 : decode cX11_hoursGo 5 = .ok (.iaload, 1) := by decide +kernel
theorem dX11_hoursGo_6 : decode cX11_hoursGo 6 = .ok (.iload_n 1, 1) := by decide +kernel
theorem dX11_hoursGo_7 : decode cX11_hoursGo 7 = .ok (.iadd, 1) := by decide +kernel
theorem dX11_hoursGo_8 : decode cX11_hoursGo 8 = .ok (.sipush 9999, 3) := by decide +kernel
theorem dX11_hoursGo_11 : decode cX11_hoursGo 11 = .ok (.if_icmp .le 5, 3) := by decide +kernel
theorem dX11_hoursGo_14 : decode cX11_hoursGo 14 = .ok (.iconst 0, 1) := by decide +kernel
theorem dX11_hoursGo_15 : decode cX11_hoursGo 15 = .ok (.ireturn, 1) := by decide +kernel
theorem dX11_hoursGo_16 : decode cX11_hoursGo 16 = .ok (.iconst 0, 1) := by decide +kernel
theorem dX11_hoursGo_17 : decode cX11_hoursGo 17 = .ok (.istore_n 2, 1) := by decide +kernel
theorem dX11_hoursGo_18 : decode cX11_hoursGo 18 = .ok (.iload_n 2, 1) := by decide +kernel
theorem dX11_hoursGo_19 : decode cX11_hoursGo 19 = .ok (.iload_n 1, 1) := by decide +kernel
theorem dX11_hoursGo_20 : decode cX11_hoursGo 20 = .ok (.if_icmp .ge 25, 3) := by decide +kernel
theorem dX11_hoursGo_23 : decode cX11_hoursGo 23 = .ok (.aload_n 0, 1) := by decide +kernel
theorem dX11_hoursGo_24 : decode cX11_hoursGo 24 = .ok (.getfield 74, 3) := by decide +kernel
theorem dX11_hoursGo_27 : decode cX11_hoursGo 27 = .ok (.iconst 3, 1) := by decide +kernel
theorem dX11_hoursGo_28 : decode cX11_hoursGo 28 = .ok (.dup2, 1) := by decide +kernel
theorem dX11_hoursGo_29 : decode cX11_hoursGo 29 = .ok (.iaload, 1) := by decide +kernel
theorem dX11_hoursGo_30 : decode cX11_hoursGo 30 = .ok (.aload_n 0, 1) := by decide +kernel
theorem dX11_hoursGo_31 : decode cX11_hoursGo 31 = .ok (.invokevirtual 332, 3) := by decide +kernel
theorem dX11_hoursGo_34 : decode cX11_hoursGo 34 = .ok (.invokestatic 358, 3) := by decide +kernel
theorem dX11_hoursGo_37 : decode cX11_hoursGo 37 = .ok (.iadd, 1) := by decide +kernel
theorem dX11_hoursGo_38 : decode cX11_hoursGo 38 = .ok (.iastore, 1) := by decide +kernel
theorem dX11_hoursGo_39 : decode cX11_hoursGo 39 = .ok (.iinc 2 1, 3) := by decide +kernel
theorem dX11_hoursGo_42 : decode cX11_hoursGo 42 = .ok (.goto (-24), 3) := by decide +kernel
theorem dX11_hoursGo_45 : decode cX11_hoursGo 45 = .ok (.aload_n 0, 1) := by decide +kernel
theorem dX11_hoursGo_46 : decode cX11_hoursGo 46 = .ok (.getfield 74, 3) := by decide +kernel
theorem dX11_hoursGo_49 : decode cX11_hoursGo 49 = .ok (.iconst 1, 1) := by decide +kernel
theorem dX11_hoursGo_50 : decode cX11_hoursGo 50 = .ok (.dup2, 1) := by decide +kernel
theorem dX11_hoursGo_51 : decode cX11_hoursGo 51 = .ok (.iaload, 1) := by decide +kernel
theorem dX11_hoursGo_52 : decode cX11_hoursGo 52 = .ok (.iload_n 1, 1) := by decide +kernel
theorem dX11_hoursGo_53 : decode cX11_hoursGo 53 = .ok (.iadd, 1) := by decide +kernel
theorem dX11_hoursGo_54 : decode cX11_hoursGo 54 = .ok (.iastore, 1) := by decide +kernel
theorem dX11_hoursGo_55 : decode cX11_hoursGo 55 = .ok (.iconst 1, 1) := by decide +kernel
theorem dX11_hoursGo_56 : decode cX11_hoursGo 56 = .ok (.ireturn, 1) := by decide +kernel
theorem dX11_bailsBy_0 : decode cX11_bailsBy 0 = .ok (.aload_n 0, 1) := by decide +kernel
theorem dX11_bailsBy_1 : decode cX11_bailsBy 1 = .ok (.iload_n 1, 1) := by decide +kernel
theorem dX11_bailsBy_2 : decode cX11_bailsBy 2 = .ok (.iload_n 2, 1) := by decide +kernel
theorem dX11_bailsBy_3 : decode cX11_bailsBy 3 = .ok (.invokevirtual 350, 3) := by decide +kernel
theorem dX11_bailsBy_6 : decode cX11_bailsBy 6 = .ok (.ifCond .ne 5, 3) := by decide +kernel
theorem dX11_bailsBy_9 : decode cX11_bailsBy 9 = .ok (.iconst 0, 1) := by decide +kernel
theorem dX11_bailsBy_10 : decode cX11_bailsBy 10 = .ok (.ireturn, 1) := by decide +kernel
theorem dX11_bailsBy_11 : decode cX11_bailsBy 11 = .ok (.aload_n 0, 1) := by decide +kernel
theorem dX11_bailsBy_12 : decode cX11_bailsBy 12 = .ok (.getfield 74, 3) := by decide +kernel
theorem dX11_bailsBy_15 : decode cX11_bailsBy 15 = .ok (.iconst 2, 1) := by decide +kernel
theorem dX11_bailsBy_16 : decode cX11_bailsBy 16 = .ok (.dup2, 1) := by decide +kernel
theorem dX11_bailsBy_17 : decode cX11_bailsBy 17 = .ok (.iaload, 1) := by decide +kernel
theorem dX11_bailsBy_18 : decode cX11_bailsBy 18 = .ok (.iload_n 2, 1) := by decide +kernel
theorem dX11_bailsBy_19 : decode cX11_bailsBy 19 = .ok (.iadd, 1) := by decide +kernel
theorem dX11_bailsBy_20 : decode cX11_bailsBy 20 = .ok (.iastore, 1) := by decide +kernel
theorem dX11_bailsBy_21 : decode cX11_bailsBy 21 = .ok (.iconst 1, 1) := by decide +kernel
theorem dX11_bailsBy_22 : decode cX11_bailsBy 22 = .ok (.ireturn, 1) := by decide +kernel
theorem dX11_turnsAny_0 : decode cX11_turnsAny 0 = .ok (.aload_n 0, 1) := by decide +kernel
theorem dX11_turnsAny_1 : decode cX11_turnsAny 1 = .ok (.getfield 7, 3) := by decide +kernel
theorem dX11_turnsAny_4 : decode cX11_turnsAny 4 = .ok (.iconst 1, 1) := by decide +kernel
theorem dX11_turnsAny_5 : decode cX11_turnsAny 5 = .ok (.iaload, 1) := by decide +kernel
theorem dX11_turnsAny_6 : decode cX11_turnsAny 6 = .ok (.ifCond .ne 5, 3) := by decide +kernel
theorem dX11_turnsAny_9 : decode cX11_turnsAny 9 = .ok (.iconst 0, 1) := by decide +kernel
theorem dX11_turnsAny_10 : decode cX11_turnsAny 10 = .ok (.ireturn, 1) := by decide +kernel
theorem dX11_turnsAny_11 : decode cX11_turnsAny 11 = .ok (.aload_n 0, 1) := by decide +kernel
theorem dX11_turnsAny_12 : decode cX11_turnsAny 12 = .ok (.aload_n 0, 1) := by decide +kernel
theorem dX11_turnsAny_13 : decode cX11_turnsAny 13 = .ok (.getfield 7, 3) := by decide +kernel
theorem dX11_turnsAny_16 : decode cX11_turnsAny 16 = .ok (.iconst 1, 1) := by decide +kernel
theorem dX11_turnsAny_17 : decode cX11_turnsAny 17 = .ok (.iaload, 1) := by decide +kernel
theorem dX11_turnsAny_18 : decode cX11_turnsAny 18 = .ok (.invokevirtual 447, 3) := by decide +kernel
theorem dX11_turnsAny_21 : decode cX11_turnsAny 21 = .ok (.istore_n 1, 1) := by decide +kernel
theorem dX11_turnsAny_22 : decode cX11_turnsAny 22 = .ok (.aload_n 0, 1) := by decide +kernel
theorem dX11_turnsAny_23 : decode cX11_turnsAny 23 = .ok (.iload_n 1, 1) := by decide +kernel
theorem dX11_turnsAny_24 : decode cX11_turnsAny 24 = .ok (.bipush 6, 2) := by decide +kernel
theorem dX11_turnsAny_26 : decode cX11_turnsAny 26 = .ok (.aload_n 0, 1) := by decide +kernel
theorem dX11_turnsAny_27 : decode cX11_turnsAny 27 = .ok (.iload_n 1, 1) := by decide +kernel
theorem dX11_turnsAny_28 : decode cX11_turnsAny 28 = .ok (.bipush 6, 2) := by decide +kernel
theorem dX11_turnsAny_30 : decode cX11_turnsAny 30 = .ok (.invokevirtual 272, 3) := by decide +kernel
theorem dX11_turnsAny_33 : decode cX11_turnsAny 33 = .ok (.ifCond .ne 7, 3) := by decide +kernel
theorem dX11_turnsAny_36 : decode cX11_turnsAny 36 = .ok (.iconst 1, 1) := by decide +kernel
theorem dX11_turnsAny_37 : decode cX11_turnsAny 37 = .ok (.goto 4, 3) := by decide +kernel
theorem dX11_turnsAny_40 : decode cX11_turnsAny 40 = .ok (.iconst 0, 1) := by decide +kernel
theorem dX11_turnsAny_41 : decode cX11_turnsAny 41 = .ok (.invokevirtual 344, 3) := by decide +kernel
theorem dX11_turnsAny_44 : decode cX11_turnsAny 44 = .ok (.ireturn, 1) := by decide +kernel
theorem dX11_does_0 : decode cX11_does 0 = .ok (.aload_n 0, 1) := by decide +kernel
theorem dX11_does_1 : decode cX11_does 1 = .ok (.getfield 7, 3) := by decide +kernel
theorem dX11_does_4 : decode cX11_does 4 = .ok (.iload_n 1, 1) := by decide +kernel
theorem dX11_does_5 : decode cX11_does 5 = .ok (.iconst 1, 1) := by decide +kernel
theorem dX11_does_6 : decode cX11_does 6 = .ok (.iadd, 1) := by decide +kernel
theorem dX11_does_7 : decode cX11_does 7 = .ok (.iaload, 1) := by decide +kernel
theorem dX11_does_8 : decode cX11_does 8 = .ok (.istore_n 2, 1) := by decide +kernel
theorem dX11_does_9 : decode cX11_does 9 = .ok (.aload_n 0, 1) := by decide +kernel
theorem dX11_does_10 : decode cX11_does 10 = .ok (.getfield 7, 3) := by decide +kernel
theorem dX11_does_13 : decode cX11_does 13 = .ok (.iload_n 1, 1) := by decide +kernel
theorem dX11_does_14 : decode cX11_does 14 = .ok (.iaload, 1) := by decide +kernel
theorem dX11_does_15 : decode cX11_does 15 = .ok (.tableswitch 76 17 21 #[33, 39, 48, 57, 71], 33) := by decide +kernel
theorem dX11_does_48 : decode cX11_does 48 = .ok (.aload_n 0, 1) := by decide +kernel
theorem dX11_does_49 : decode cX11_does 49 = .ok (.iload_n 2, 1) := by decide +kernel
theorem dX11_does_50 : decode cX11_does 50 = .ok (.invokevirtual 450, 3) := by decide +kernel
theorem dX11_does_53 : decode cX11_does 53 = .ok (.ireturn, 1) := by decide +kernel
theorem dX11_does_54 : decode cX11_does 54 = .ok (.aload_n 0, 1) := by decide +kernel
theorem dX11_does_55 : decode cX11_does 55 = .ok (.iload_n 2, 1) := by decide +kernel
theorem dX11_does_56 : decode cX11_does 56 = .ok (.bipush 6, 2) := by decide +kernel
theorem dX11_does_58 : decode cX11_does 58 = .ok (.iconst 1, 1) := by decide +kernel
theorem dX11_does_59 : decode cX11_does 59 = .ok (.invokevirtual 344, 3) := by decide +kernel
theorem dX11_does_62 : decode cX11_does 62 = .ok (.ireturn, 1) := by decide +kernel
theorem dX11_does_63 : decode cX11_does 63 = .ok (.aload_n 0, 1) := by decide +kernel
theorem dX11_does_64 : decode cX11_does 64 = .ok (.iload_n 2, 1) := by decide +kernel
theorem dX11_does_65 : decode cX11_does 65 = .ok (.bipush 6, 2) := by decide +kernel
theorem dX11_does_67 : decode cX11_does 67 = .ok (.iconst 0, 1) := by decide +kernel
theorem dX11_does_68 : decode cX11_does 68 = .ok (.invokevirtual 344, 3) := by decide +kernel
theorem dX11_does_71 : decode cX11_does 71 = .ok (.ireturn, 1) := by decide +kernel
theorem dX11_does_72 : decode cX11_does 72 = .ok (.aload_n 0, 1) := by decide +kernel
theorem dX11_does_73 : decode cX11_does 73 = .ok (.iload_n 2, 1) := by decide +kernel
theorem dX11_does_74 : decode cX11_does 74 = .ok (.aload_n 0, 1) := by decide +kernel
theorem dX11_does_75 : decode cX11_does 75 = .ok (.getfield 7, 3) := by decide +kernel
theorem dX11_does_78 : decode cX11_does 78 = .ok (.iload_n 1, 1) := by decide +kernel
theorem dX11_does_79 : decode cX11_does 79 = .ok (.iconst 2, 1) := by decide +kernel
theorem dX11_does_80 : decode cX11_does 80 = .ok (.iadd, 1) := by decide +kernel
theorem dX11_does_81 : decode cX11_does 81 = .ok (.iaload, 1) := by decide +kernel
theorem dX11_does_82 : decode cX11_does 82 = .ok (.invokevirtual 453, 3) := by decide +kernel
theorem dX11_does_85 : decode cX11_does 85 = .ok (.ireturn, 1) := by decide +kernel
theorem dX11_does_86 : decode cX11_does 86 = .ok (.aload_n 0, 1) := by decide +kernel
theorem dX11_does_87 : decode cX11_does 87 = .ok (.invokevirtual 456, 3) := by decide +kernel
theorem dX11_does_90 : decode cX11_does 90 = .ok (.ireturn, 1) := by decide +kernel
theorem dX11_does_91 : decode cX11_does 91 = .ok (.iconst 1, 1) := by decide +kernel
theorem dX11_does_92 : decode cX11_does 92 = .ok (.ireturn, 1) := by decide +kernel
theorem dX11_holds_0 : decode cX11_holds 0 = .ok (.aload_n 0, 1) := by decide +kernel
theorem dX11_holds_1 : decode cX11_holds 1 = .ok (.getfield 7, 3) := by decide +kernel
theorem dX11_holds_4 : decode cX11_holds 4 = .ok (.iload_n 1, 1) := by decide +kernel
theorem dX11_holds_5 : decode cX11_holds 5 = .ok (.iaload, 1) := by decide +kernel
theorem dX11_holds_6 : decode cX11_holds 6 = .ok (.sipush 2200, 3) := by decide +kernel
theorem dX11_holds_9 : decode cX11_holds 9 = .ok (.isub, 1) := by decide +kernel
theorem dX11_holds_10 : decode cX11_holds 10 = .ok (.istore_n 2, 1) := by decide +kernel
theorem dX11_holds_11 : decode cX11_holds 11 = .ok (.aload_n 0, 1) := by decide +kernel
theorem dX11_holds_12 : decode cX11_holds 12 = .ok (.getfield 7, 3) := by decide +kernel
theorem dX11_holds_15 : decode cX11_holds 15 = .ok (.iload_n 1, 1) := by decide +kernel
theorem dX11_holds_16 : decode cX11_holds 16 = .ok (.iconst 1, 1) := by decide +kernel
theorem dX11_holds_17 : decode cX11_holds 17 = .ok (.iadd, 1) := by decide +kernel
theorem dX11_holds_18 : decode cX11_holds 18 = .ok (.iaload, 1) := by decide +kernel
theorem dX11_holds_19 : decode cX11_holds 19 = .ok (.istore_n 3, 1) := by decide +kernel
theorem dX11_holds_20 : decode cX11_holds 20 = .ok (.iload_n 2, 1) := by decide +kernel
theorem dX11_holds_21 : decode cX11_holds 21 = .ok (.bipush 18, 2) := by decide +kernel
theorem dX11_holds_23 : decode cX11_holds 23 = .ok (.if_icmp .ne 9, 3) := by decide +kernel
theorem dX11_holds_26 : decode cX11_holds 26 = .ok (.aload_n 0, 1) := by decide +kernel
theorem dX11_holds_27 : decode cX11_holds 27 = .ok (.iload_n 3, 1) := by decide +kernel
theorem dX11_holds_28 : decode cX11_holds 28 = .ok (.invokevirtual 289, 3) := by decide +kernel
theorem dX11_holds_31 : decode cX11_holds 31 = .ok (.ireturn, 1) := by decide +kernel
theorem dX11_holds_32 : decode cX11_holds 32 = .ok (.aload_n 0, 1) := by decide +kernel
theorem dX11_holds_33 : decode cX11_holds 33 = .ok (.iload_n 3, 1) := by decide +kernel
theorem dX11_holds_34 : decode cX11_holds 34 = .ok (.invokevirtual 269, 3) := by decide +kernel
theorem dX11_holds_37 : decode cX11_holds 37 = .ok (.istore 4, 2) := by decide +kernel
theorem dX11_holds_39 : decode cX11_holds 39 = .ok (.iload_n 2, 1) := by decide +kernel
theorem dX11_holds_40 : decode cX11_holds 40 = .ok (.bipush 26, 2) := by decide +kernel
theorem dX11_holds_42 : decode cX11_holds 42 = .ok (.if_icmp .ne 14, 3) := by decide +kernel
theorem dX11_holds_45 : decode cX11_holds 45 = .ok (.iload 4, 2) := by decide +kernel
theorem dX11_holds_47 : decode cX11_holds 47 = .ok (.ifCond .le 7, 3) := by decide +kernel
theorem dX11_holds_50 : decode cX11_holds 50 = .ok (.iconst 1, 1) := by decide +kernel
theorem dX11_holds_51 : decode cX11_holds 51 = .ok (.goto 4, 3) := by decide +kernel
theorem dX11_holds_54 : decode cX11_holds 54 = .ok (.iconst 0, 1) := by decide +kernel
theorem dX11_holds_55 : decode cX11_holds 55 = .ok (.ireturn, 1) := by decide +kernel
theorem dX11_holds_56 : decode cX11_holds 56 = .ok (.aload_n 0, 1) := by decide +kernel
theorem dX11_holds_57 : decode cX11_holds 57 = .ok (.getfield 7, 3) := by decide +kernel
theorem dX11_holds_60 : decode cX11_holds 60 = .ok (.iload_n 1, 1) := by decide +kernel
theorem dX11_holds_61 : decode cX11_holds 61 = .ok (.iconst 5, 1) := by decide +kernel
theorem dX11_holds_62 : decode cX11_holds 62 = .ok (.iadd, 1) := by decide +kernel
theorem dX11_holds_63 : decode cX11_holds 63 = .ok (.iaload, 1) := by decide +kernel
theorem dX11_holds_64 : decode cX11_holds 64 = .ok (.bipush 60, 2) := by decide +kernel
theorem dX11_holds_66 : decode cX11_holds 66 = .ok (.if_icmp .ne 24, 3) := by decide +kernel
theorem dX11_holds_69 : decode cX11_holds 69 = .ok (.iload 4, 2) := by decide +kernel
theorem dX11_holds_71 : decode cX11_holds 71 = .ok (.aload_n 0, 1) := by decide +kernel
theorem dX11_holds_72 : decode cX11_holds 72 = .ok (.getfield 7, 3) := by decide +kernel
theorem dX11_holds_75 : decode cX11_holds 75 = .ok (.iload_n 1, 1) := by decide +kernel
theorem dX11_holds_76 : decode cX11_holds 76 = .ok (.iconst 2, 1) := by decide +kernel
theorem dX11_holds_77 : decode cX11_holds 77 = .ok (.iadd, 1) := by decide +kernel
theorem dX11_holds_78 : decode cX11_holds 78 = .ok (.iaload, 1) := by decide +kernel
theorem dX11_holds_79 : decode cX11_holds 79 = .ok (.if_icmp .ge 7, 3) := by decide +kernel
theorem dX11_holds_82 : decode cX11_holds 82 = .ok (.iconst 1, 1) := by decide +kernel
theorem dX11_holds_83 : decode cX11_holds 83 = .ok (.goto 59, 3) := by decide +kernel
theorem dX11_holds_86 : decode cX11_holds 86 = .ok (.iconst 0, 1) := by decide +kernel
theorem dX11_holds_87 : decode cX11_holds 87 = .ok (.goto 55, 3) := by decide +kernel
theorem dX11_holds_90 : decode cX11_holds 90 = .ok (.aload_n 0, 1) := by decide +kernel
theorem dX11_holds_91 : decode cX11_holds 91 = .ok (.getfield 7, 3) := by decide +kernel
theorem dX11_holds_94 : decode cX11_holds 94 = .ok (.iload_n 1, 1) := by decide +kernel
theorem dX11_holds_95 : decode cX11_holds 95 = .ok (.iconst 5, 1) := by decide +kernel
theorem dX11_holds_96 : decode cX11_holds 96 = .ok (.iadd, 1) := by decide +kernel
theorem dX11_holds_97 : decode cX11_holds 97 = .ok (.iaload, 1) := by decide +kernel
theorem dX11_holds_98 : decode cX11_holds 98 = .ok (.bipush 62, 2) := by decide +kernel
theorem dX11_holds_100 : decode cX11_holds 100 = .ok (.if_icmp .ne 24, 3) := by decide +kernel
theorem dX11_holds_103 : decode cX11_holds 103 = .ok (.iload 4, 2) := by decide +kernel
theorem dX11_holds_105 : decode cX11_holds 105 = .ok (.aload_n 0, 1) := by decide +kernel
theorem dX11_holds_106 : decode cX11_holds 106 = .ok (.getfield 7, 3) := by decide +kernel
theorem dX11_holds_109 : decode cX11_holds 109 = .ok (.iload_n 1, 1) := by decide +kernel
theorem dX11_holds_110 : decode cX11_holds 110 = .ok (.iconst 2, 1) := by decide +kernel
theorem dX11_holds_111 : decode cX11_holds 111 = .ok (.iadd, 1) := by decide +kernel
theorem dX11_holds_112 : decode cX11_holds 112 = .ok (.iaload, 1) := by decide +kernel
theorem dX11_holds_113 : decode cX11_holds 113 = .ok (.if_icmp .le 7, 3) := by decide +kernel
theorem dX11_holds_116 : decode cX11_holds 116 = .ok (.iconst 1, 1) := by decide +kernel
theorem dX11_holds_117 : decode cX11_holds 117 = .ok (.goto 25, 3) := by decide +kernel
theorem dX11_holds_120 : decode cX11_holds 120 = .ok (.iconst 0, 1) := by decide +kernel
theorem dX11_holds_121 : decode cX11_holds 121 = .ok (.goto 21, 3) := by decide +kernel
theorem dX11_holds_124 : decode cX11_holds 124 = .ok (.iload 4, 2) := by decide +kernel
theorem dX11_holds_126 : decode cX11_holds 126 = .ok (.aload_n 0, 1) := by decide +kernel
theorem dX11_holds_127 : decode cX11_holds 127 = .ok (.getfield 7, 3) := by decide +kernel
theorem dX11_holds_130 : decode cX11_holds 130 = .ok (.iload_n 1, 1) := by decide +kernel
theorem dX11_holds_131 : decode cX11_holds 131 = .ok (.iconst 2, 1) := by decide +kernel
theorem dX11_holds_132 : decode cX11_holds 132 = .ok (.iadd, 1) := by decide +kernel
theorem dX11_holds_133 : decode cX11_holds 133 = .ok (.iaload, 1) := by decide +kernel
theorem dX11_holds_134 : decode cX11_holds 134 = .ok (.if_icmp .ne 7, 3) := by decide +kernel
theorem dX11_holds_137 : decode cX11_holds 137 = .ok (.iconst 1, 1) := by decide +kernel
theorem dX11_holds_138 : decode cX11_holds 138 = .ok (.goto 4, 3) := by decide +kernel
theorem dX11_holds_141 : decode cX11_holds 141 = .ok (.iconst 0, 1) := by decide +kernel
theorem dX11_holds_142 : decode cX11_holds 142 = .ok (.ireturn, 1) := by decide +kernel
theorem dX11_behindEnds_0 : decode cX11_behindEnds 0 = .ok (.iload_n 1, 1) := by decide +kernel
theorem dX11_behindEnds_1 : decode cX11_behindEnds 1 = .ok (.istore_n 2, 1) := by decide +kernel
theorem dX11_behindEnds_2 : decode cX11_behindEnds 2 = .ok (.iload_n 2, 1) := by decide +kernel
theorem dX11_behindEnds_3 : decode cX11_behindEnds 3 = .ok (.aload_n 0, 1) := by decide +kernel
theorem dX11_behindEnds_4 : decode cX11_behindEnds 4 = .ok (.getfield 7, 3) := by decide +kernel
theorem dX11_behindEnds_7 : decode cX11_behindEnds 7 = .ok (.iconst 4, 1) := by decide +kernel
theorem dX11_behindEnds_8 : decode cX11_behindEnds 8 = .ok (.iaload, 1) := by decide +kernel
theorem dX11_behindEnds_9 : decode cX11_behindEnds 9 = .ok (.if_icmp .ge 108, 3) := by decide +kernel
theorem dX11_behindEnds_12 : decode cX11_behindEnds 12 = .ok (.aload_n 0, 1) := by decide +kernel
theorem dX11_behindEnds_13 : decode cX11_behindEnds 13 = .ok (.getfield 7, 3) := by decide +kernel
theorem dX11_behindEnds_16 : decode cX11_behindEnds 16 = .ok (.sipush 160, 3) := by decide +kernel
theorem dX11_behindEnds_19 : decode cX11_behindEnds 19 = .ok (.bipush 6, 2) := by decide +kernel
theorem dX11_behindEnds_21 : decode cX11_behindEnds 21 = .ok (.iload_n 2, 1) := by decide +kernel
theorem dX11_behindEnds_22 : decode cX11_behindEnds 22 = .ok (.imul, 1) := by decide +kernel
theorem dX11_behindEnds_23 : decode cX11_behindEnds 23 = .ok (.iadd, 1) := by decide +kernel
theorem dX11_behindEnds_24 : decode cX11_behindEnds 24 = .ok (.iaload, 1) := by decide +kernel
theorem dX11_behindEnds_25 : decode cX11_behindEnds 25 = .ok (.bipush 24, 2) := by decide +kernel
theorem dX11_behindEnds_27 : decode cX11_behindEnds 27 = .ok (.if_icmp .ne 90, 3) := by decide +kernel
theorem dX11_behindEnds_30 : decode cX11_behindEnds 30 = .ok (.aload_n 0, 1) := by decide +kernel
theorem dX11_behindEnds_31 : decode cX11_behindEnds 31 = .ok (.getfield 7, 3) := by decide +kernel
theorem dX11_behindEnds_34 : decode cX11_behindEnds 34 = .ok (.sipush 160, 3) := by decide +kernel
theorem dX11_behindEnds_37 : decode cX11_behindEnds 37 = .ok (.bipush 6, 2) := by decide +kernel
theorem dX11_behindEnds_39 : decode cX11_behindEnds 39 = .ok (.iload_n 2, 1) := by decide +kernel
theorem dX11_behindEnds_40 : decode cX11_behindEnds 40 = .ok (.imul, 1) := by decide +kernel
theorem dX11_behindEnds_41 : decode cX11_behindEnds 41 = .ok (.iadd, 1) := by decide +kernel
theorem dX11_behindEnds_42 : decode cX11_behindEnds 42 = .ok (.iconst 4, 1) := by decide +kernel
theorem dX11_behindEnds_43 : decode cX11_behindEnds 43 = .ok (.iadd, 1) := by decide +kernel
theorem dX11_behindEnds_44 : decode cX11_behindEnds 44 = .ok (.iaload, 1) := by decide +kernel
theorem dX11_behindEnds_45 : decode cX11_behindEnds 45 = .ok (.istore_n 3, 1) := by decide +kernel
theorem dX11_behindEnds_46 : decode cX11_behindEnds 46 = .ok (.aload_n 0, 1) := by decide +kernel
theorem dX11_behindEnds_47 : decode cX11_behindEnds 47 = .ok (.getfield 7, 3) := by decide +kernel
theorem dX11_behindEnds_50 : decode cX11_behindEnds 50 = .ok (.sipush 160, 3) := by decide +kernel
theorem dX11_behindEnds_53 : decode cX11_behindEnds 53 = .ok (.bipush 6, 2) := by decide +kernel
theorem dX11_behindEnds_55 : decode cX11_behindEnds 55 = .ok (.iload_n 3, 1) := by decide +kernel
theorem dX11_behindEnds_56 : decode cX11_behindEnds 56 = .ok (.imul, 1) := by decide +kernel
theorem dX11_behindEnds_57 : decode cX11_behindEnds 57 = .ok (.iadd, 1) := by decide +kernel
theorem dX11_behindEnds_58 : decode cX11_behindEnds 58 = .ok (.iaload, 1) := by decide +kernel
theorem dX11_behindEnds_59 : decode cX11_behindEnds 59 = .ok (.bipush 23, 2) := by decide +kernel
theorem dX11_behindEnds_61 : decode cX11_behindEnds 61 = .ok (.if_icmp .ne 16, 3) := by decide +kernel
theorem dX11_behindEnds_64 : decode cX11_behindEnds 64 = .ok (.aload_n 0, 1) := by decide +kernel
theorem dX11_behindEnds_65 : decode cX11_behindEnds 65 = .ok (.getfield 71, 3) := by decide +kernel
theorem dX11_behindEnds_68 : decode cX11_behindEnds 68 = .ok (.iload_n 3, 1) := by decide +kernel
theorem dX11_behindEnds_69 : decode cX11_behindEnds 69 = .ok (.iaload, 1) := by decide +kernel
theorem dX11_behindEnds_70 : decode cX11_behindEnds 70 = .ok (.ifCond .le 7, 3) := by decide +kernel
theorem dX11_behindEnds_73 : decode cX11_behindEnds 73 = .ok (.iconst 1, 1) := by decide +kernel
theorem dX11_behindEnds_74 : decode cX11_behindEnds 74 = .ok (.goto 4, 3) := by decide +kernel
theorem dX11_behindEnds_77 : decode cX11_behindEnds 77 = .ok (.iconst 0, 1) := by decide +kernel
theorem dX11_behindEnds_78 : decode cX11_behindEnds 78 = .ok (.istore 4, 2) := by decide +kernel
theorem dX11_behindEnds_80 : decode cX11_behindEnds 80 = .ok (.aload_n 0, 1) := by decide +kernel
theorem dX11_behindEnds_81 : decode cX11_behindEnds 81 = .ok (.getfield 71, 3) := by decide +kernel
theorem dX11_behindEnds_84 : decode cX11_behindEnds 84 = .ok (.iload_n 3, 1) := by decide +kernel
theorem dX11_behindEnds_85 : decode cX11_behindEnds 85 = .ok (.dup2, 1) := by decide +kernel
theorem dX11_behindEnds_86 : decode cX11_behindEnds 86 = .ok (.iaload, 1) := by decide +kernel
theorem dX11_behindEnds_87 : decode cX11_behindEnds 87 = .ok (.iload 4, 2) := by decide +kernel
theorem dX11_behindEnds_89 : decode cX11_behindEnds 89 = .ok (.ifCond .eq 7, 3) := by decide +kernel
theorem dX11_behindEnds_92 : decode cX11_behindEnds 92 = .ok (.iconst 1, 1) := by decide +kernel
theorem dX11_behindEnds_93 : decode cX11_behindEnds 93 = .ok (.goto 4, 3) := by decide +kernel
theorem dX11_behindEnds_96 : decode cX11_behindEnds 96 = .ok (.iconst 0, 1) := by decide +kernel
theorem dX11_behindEnds_97 : decode cX11_behindEnds 97 = .ok (.isub, 1) := by decide +kernel
theorem dX11_behindEnds_98 : decode cX11_behindEnds 98 = .ok (.iastore, 1) := by decide +kernel
theorem dX11_behindEnds_99 : decode cX11_behindEnds 99 = .ok (.iload 4, 2) := by decide +kernel
theorem dX11_behindEnds_101 : decode cX11_behindEnds 101 = .ok (.ifCond .eq 9, 3) := by decide +kernel
theorem dX11_behindEnds_104 : decode cX11_behindEnds 104 = .ok (.iload_n 3, 1) := by decide +kernel
theorem dX11_behindEnds_105 : decode cX11_behindEnds 105 = .ok (.iconst 1, 1) := by decide +kernel
theorem dX11_behindEnds_106 : decode cX11_behindEnds 106 = .ok (.iadd, 1) := by decide +kernel
theorem dX11_behindEnds_107 : decode cX11_behindEnds 107 = .ok (.goto 6, 3) := by decide +kernel
theorem dX11_behindEnds_110 : decode cX11_behindEnds 110 = .ok (.iload_n 2, 1) := by decide +kernel
theorem dX11_behindEnds_111 : decode cX11_behindEnds 111 = .ok (.iconst 1, 1) := by decide +kernel
theorem dX11_behindEnds_112 : decode cX11_behindEnds 112 = .ok (.iadd, 1) := by decide +kernel
theorem dX11_behindEnds_113 : decode cX11_behindEnds 113 = .ok (.istore_n 2, 1) := by decide +kernel
theorem dX11_behindEnds_114 : decode cX11_behindEnds 114 = .ok (.goto (-112), 3) := by decide +kernel
theorem dX11_behindEnds_117 : decode cX11_behindEnds 117 = .ok (.iload_n 2, 1) := by decide +kernel
theorem dX11_behindEnds_118 : decode cX11_behindEnds 118 = .ok (.ireturn, 1) := by decide +kernel
theorem dX11_lives_0 : decode cX11_lives 0 = .ok (.aload_n 0, 1) := by decide +kernel
theorem dX11_lives_1 : decode cX11_lives 1 = .ok (.iload_n 1, 1) := by decide +kernel
theorem dX11_lives_2 : decode cX11_lives 2 = .ok (.putfield 443, 3) := by decide +kernel
theorem dX11_lives_5 : decode cX11_lives 5 = .ok (.aload_n 0, 1) := by decide +kernel
theorem dX11_lives_6 : decode cX11_lives 6 = .ok (.iconst 0, 1) := by decide +kernel
theorem dX11_lives_7 : decode cX11_lives 7 = .ok (.putfield 459, 3) := by decide +kernel
theorem dX11_lives_10 : decode cX11_lives 10 = .ok (.iconst 0, 1) := by decide +kernel
theorem dX11_lives_11 : decode cX11_lives 11 = .ok (.istore_n 2, 1) := by decide +kernel
theorem dX11_lives_12 : decode cX11_lives 12 = .ok (.iload_n 2, 1) := by decide +kernel
theorem dX11_lives_13 : decode cX11_lives 13 = .ok (.iconst 5, 1) := by decide +kernel
theorem dX11_lives_14 : decode cX11_lives 14 = .ok (.if_icmp .ge 16, 3) := by decide +kernel
theorem dX11_lives_17 : decode cX11_lives 17 = .ok (.aload_n 0, 1) := by decide +kernel
theorem dX11_lives_18 : decode cX11_lives 18 = .ok (.getfield 74, 3) := by decide +kernel
theorem dX11_lives_21 : decode cX11_lives 21 = .ok (.iload_n 2, 1) := by decide +kernel
theorem dX11_lives_22 : decode cX11_lives 22 = .ok (.iconst 0, 1) := by decide +kernel
theorem dX11_lives_23 : decode cX11_lives 23 = .ok (.iastore, 1) := by decide +kernel
theorem dX11_lives_24 : decode cX11_lives 24 = .ok (.iinc 2 1, 3) := by decide +kernel
theorem dX11_lives_27 : decode cX11_lives 27 = .ok (.goto (-15), 3) := by decide +kernel
theorem dX11_lives_30 : decode cX11_lives 30 = .ok (.iconst 0, 1) := by decide +kernel
theorem dX11_lives_31 : decode cX11_lives 31 = .ok (.istore_n 2, 1) := by decide +kernel
theorem dX11_lives_32 : decode cX11_lives 32 = .ok (.iload_n 2, 1) := by decide +kernel
theorem dX11_lives_33 : decode cX11_lives 33 = .ok (.aload_n 0, 1) := by decide +kernel
theorem dX11_lives_34 : decode cX11_lives 34 = .ok (.getfield 7, 3) := by decide +kernel
theorem dX11_lives_37 : decode cX11_lives 37 = .ok (.iconst 4, 1) := by decide +kernel
theorem dX11_lives_38 : decode cX11_lives 38 = .ok (.iaload, 1) := by decide +kernel
theorem dX11_lives_39 : decode cX11_lives 39 = .ok (.if_icmp .ge 145, 3) := by decide +kernel
theorem dX11_lives_42 : decode cX11_lives 42 = .ok (.aload_n 0, 1) := by decide +kernel
theorem dX11_lives_43 : decode cX11_lives 43 = .ok (.getfield 459, 3) := by decide +kernel
theorem dX11_lives_46 : decode cX11_lives 46 = .ok (.sipush 300, 3) := by decide +kernel
theorem dX11_lives_49 : decode cX11_lives 49 = .ok (.if_icmp .ne 11, 3) := by decide +kernel
theorem dX11_lives_52 : decode cX11_lives 52 = .ok (.aload_n 0, 1) := by decide +kernel
theorem dX11_lives_53 : decode cX11_lives 53 = .ok (.getfield 74, 3) := by decide +kernel
theorem dX11_lives_56 : decode cX11_lives 56 = .ok (.iconst 4, 1) := by decide +kernel
theorem dX11_lives_57 : decode cX11_lives 57 = .ok (.iconst 1, 1) := by decide +kernel
theorem dX11_lives_58 : decode cX11_lives 58 = .ok (.iastore, 1) := by decide +kernel
theorem dX11_lives_59 : decode cX11_lives 59 = .ok (.return_, 1) := by decide +kernel
theorem dX11_lives_60 : decode cX11_lives 60 = .ok (.sipush 160, 3) := by decide +kernel
theorem dX11_lives_63 : decode cX11_lives 63 = .ok (.bipush 6, 2) := by decide +kernel
theorem dX11_lives_65 : decode cX11_lives 65 = .ok (.iload_n 2, 1) := by decide +kernel
theorem dX11_lives_66 : decode cX11_lives 66 = .ok (.imul, 1) := by decide +kernel
theorem dX11_lives_67 : decode cX11_lives 67 = .ok (.iadd, 1) := by decide +kernel
theorem dX11_lives_68 : decode cX11_lives 68 = .ok (.istore_n 3, 1) := by decide +kernel
theorem dX11_lives_69 : decode cX11_lives 69 = .ok (.aload_n 0, 1) := by decide +kernel
theorem dX11_lives_70 : decode cX11_lives 70 = .ok (.dup, 1) := by decide +kernel
theorem dX11_lives_71 : decode cX11_lives 71 = .ok (.getfield 459, 3) := by decide +kernel
theorem dX11_lives_74 : decode cX11_lives 74 = .ok (.iconst 1, 1) := by decide +kernel
theorem dX11_lives_75 : decode cX11_lives 75 = .ok (.iadd, 1) := by decide +kernel
theorem dX11_lives_76 : decode cX11_lives 76 = .ok (.putfield 459, 3) := by decide +kernel
theorem dX11_lives_79 : decode cX11_lives 79 = .ok (.aload_n 0, 1) := by decide +kernel
theorem dX11_lives_80 : decode cX11_lives 80 = .ok (.getfield 7, 3) := by decide +kernel
theorem dX11_lives_83 : decode cX11_lives 83 = .ok (.iload_n 3, 1) := by decide +kernel
theorem dX11_lives_84 : decode cX11_lives 84 = .ok (.iaload, 1) := by decide +kernel
theorem dX11_lives_85 : decode cX11_lives 85 = .ok (.bipush 25, 2) := by decide +kernel
theorem dX11_lives_87 : decode cX11_lives 87 = .ok (.if_icmp .ne 4, 3) := by decide +kernel
theorem dX11_lives_90 : decode cX11_lives 90 = .ok (.return_, 1) := by decide +kernel
theorem dX11_lives_91 : decode cX11_lives 91 = .ok (.aload_n 0, 1) := by decide +kernel
theorem dX11_lives_92 : decode cX11_lives 92 = .ok (.getfield 74, 3) := by decide +kernel
theorem dX11_lives_95 : decode cX11_lives 95 = .ok (.iconst 0, 1) := by decide +kernel
theorem dX11_lives_96 : decode cX11_lives 96 = .ok (.dup2, 1) := by decide +kernel
theorem dX11_lives_97 : decode cX11_lives 97 = .ok (.iaload, 1) := by decide +kernel
theorem dX11_lives_98 : decode cX11_lives 98 = .ok (.aload_n 0, 1) := by decide +kernel
theorem dX11_lives_99 : decode cX11_lives 99 = .ok (.iload_n 3, 1) := by decide +kernel
theorem dX11_lives_100 : decode cX11_lives 100 = .ok (.invokevirtual 462, 3) := by decide +kernel
theorem dX11_lives_103 : decode cX11_lives 103 = .ok (.ifCond .eq 7, 3) := by decide +kernel
theorem dX11_lives_106 : decode cX11_lives 106 = .ok (.iconst 0, 1) := by decide +kernel
theorem dX11_lives_107 : decode cX11_lives 107 = .ok (.goto 4, 3) := by decide +kernel
theorem dX11_lives_110 : decode cX11_lives 110 = .ok (.iconst 1, 1) := by decide +kernel
theorem dX11_lives_111 : decode cX11_lives 111 = .ok (.iadd, 1) := by decide +kernel
theorem dX11_lives_112 : decode cX11_lives 112 = .ok (.iastore, 1) := by decide +kernel
theorem dX11_lives_113 : decode cX11_lives 113 = .ok (.aload_n 0, 1) := by decide +kernel
theorem dX11_lives_114 : decode cX11_lives 114 = .ok (.getfield 7, 3) := by decide +kernel
theorem dX11_lives_117 : decode cX11_lives 117 = .ok (.iload_n 3, 1) := by decide +kernel
theorem dX11_lives_118 : decode cX11_lives 118 = .ok (.iaload, 1) := by decide +kernel
theorem dX11_lives_119 : decode cX11_lives 119 = .ok (.bipush 23, 2) := by decide +kernel
theorem dX11_lives_121 : decode cX11_lives 121 = .ok (.if_icmp .ne 19, 3) := by decide +kernel
theorem dX11_lives_124 : decode cX11_lives 124 = .ok (.aload_n 0, 1) := by decide +kernel
theorem dX11_lives_125 : decode cX11_lives 125 = .ok (.getfield 71, 3) := by decide +kernel
theorem dX11_lives_128 : decode cX11_lives 128 = .ok (.iload_n 2, 1) := by decide +kernel
theorem dX11_lives_129 : decode cX11_lives 129 = .ok (.aload_n 0, 1) := by decide +kernel
theorem dX11_lives_130 : decode cX11_lives 130 = .ok (.getfield 7, 3) := by decide +kernel
theorem dX11_lives_133 : decode cX11_lives 133 = .ok (.iload_n 3, 1) := by decide +kernel
theorem dX11_lives_134 : decode cX11_lives 134 = .ok (.iconst 1, 1) := by decide +kernel
theorem dX11_lives_135 : decode cX11_lives 135 = .ok (.iadd, 1) := by decide +kernel
theorem dX11_lives_136 : decode cX11_lives 136 = .ok (.iaload, 1) := by decide +kernel
theorem dX11_lives_137 : decode cX11_lives 137 = .ok (.iconst 1, 1) := by decide +kernel
theorem dX11_lives_138 : decode cX11_lives 138 = .ok (.isub, 1) := by decide +kernel
theorem dX11_lives_139 : decode cX11_lives 139 = .ok (.iastore, 1) := by decide +kernel
theorem dX11_lives_140 : decode cX11_lives 140 = .ok (.aload_n 0, 1) := by decide +kernel
theorem dX11_lives_141 : decode cX11_lives 141 = .ok (.aload_n 0, 1) := by decide +kernel
theorem dX11_lives_142 : decode cX11_lives 142 = .ok (.getfield 7, 3) := by decide +kernel
theorem dX11_lives_145 : decode cX11_lives 145 = .ok (.iload_n 3, 1) := by decide +kernel
theorem dX11_lives_146 : decode cX11_lives 146 = .ok (.iaload, 1) := by decide +kernel
theorem dX11_lives_147 : decode cX11_lives 147 = .ok (.sipush 2200, 3) := by decide +kernel
theorem dX11_lives_150 : decode cX11_lives 150 = .ok (.if_icmp .lt 24, 3) := by decide +kernel
theorem dX11_lives_153 : decode cX11_lives 153 = .ok (.aload_n 0, 1) := by decide +kernel
theorem dX11_lives_154 : decode cX11_lives 154 = .ok (.iload_n 3, 1) := by decide +kernel
theorem dX11_lives_155 : decode cX11_lives 155 = .ok (.invokevirtual 465, 3) := by decide +kernel
theorem dX11_lives_158 : decode cX11_lives 158 = .ok (.ifCond .ne 16, 3) := by decide +kernel
theorem dX11_lives_161 : decode cX11_lives 161 = .ok (.aload_n 0, 1) := by decide +kernel
theorem dX11_lives_162 : decode cX11_lives 162 = .ok (.getfield 7, 3) := by decide +kernel
theorem dX11_lives_165 : decode cX11_lives 165 = .ok (.iload_n 3, 1) := by decide +kernel
theorem dX11_lives_166 : decode cX11_lives 166 = .ok (.iconst 4, 1) := by decide +kernel
theorem dX11_lives_167 : decode cX11_lives 167 = .ok (.iadd, 1) := by decide +kernel
theorem dX11_lives_168 : decode cX11_lives 168 = .ok (.iaload, 1) := by decide +kernel
theorem dX11_lives_169 : decode cX11_lives 169 = .ok (.iconst 1, 1) := by decide +kernel
theorem dX11_lives_170 : decode cX11_lives 170 = .ok (.iadd, 1) := by decide +kernel
theorem dX11_lives_171 : decode cX11_lives 171 = .ok (.goto 6, 3) := by decide +kernel
theorem dX11_lives_174 : decode cX11_lives 174 = .ok (.iload_n 2, 1) := by decide +kernel
theorem dX11_lives_175 : decode cX11_lives 175 = .ok (.iconst 1, 1) := by decide +kernel
theorem dX11_lives_176 : decode cX11_lives 176 = .ok (.iadd, 1) := by decide +kernel
theorem dX11_lives_177 : decode cX11_lives 177 = .ok (.invokevirtual 468, 3) := by decide +kernel
theorem dX11_lives_180 : decode cX11_lives 180 = .ok (.istore_n 2, 1) := by decide +kernel
theorem dX11_lives_181 : decode cX11_lives 181 = .ok (.goto (-149), 3) := by decide +kernel
theorem dX11_lives_184 : decode cX11_lives 184 = .ok (.return_, 1) := by decide +kernel
theorem dX11_live_0 : decode cX11_live 0 = .ok (.iload_n 1, 1) := by decide +kernel
theorem dX11_live_1 : decode cX11_live 1 = .ok (.i2l, 1) := by decide +kernel
theorem dX11_live_2 : decode cX11_live 2 = .ok (.lconst 0, 1) := by decide +kernel
theorem dX11_live_3 : decode cX11_live 3 = .ok (.ldc2_w 471, 3) := by decide +kernel
theorem dX11_live_6 : decode cX11_live 6 = .ok (.invokestatic 337, 3) := by decide +kernel
theorem dX11_live_9 : decode cX11_live 9 = .ok (.ifCond .ne 9, 3) := by decide +kernel
theorem dX11_live_12 : decode cX11_live 12 = .ok (.aload_n 0, 1) := by decide +kernel
theorem dX11_live_13 : decode cX11_live 13 = .ok (.iconst 1, 1) := by decide +kernel
theorem dX11_live_14 : decode cX11_live 14 = .ok (.invokevirtual 90, 3) := by decide +kernel
theorem dX11_live_17 : decode cX11_live 17 = .ok (.ireturn, 1) := by decide +kernel
theorem dX11_live_18 : decode cX11_live 18 = .ok (.aload_n 0, 1) := by decide +kernel
theorem dX11_live_19 : decode cX11_live 19 = .ok (.getfield 7, 3) := by decide +kernel
theorem dX11_live_22 : decode cX11_live 22 = .ok (.iconst 4, 1) := by decide +kernel
theorem dX11_live_23 : decode cX11_live 23 = .ok (.iaload, 1) := by decide +kernel
theorem dX11_live_24 : decode cX11_live 24 = .ok (.iconst (-1), 1) := by decide +kernel
theorem dX11_live_25 : decode cX11_live 25 = .ok (.if_icmp .ne 10, 3) := by decide +kernel
theorem dX11_live_28 : decode cX11_live 28 = .ok (.aload_n 0, 1) := by decide +kernel
theorem dX11_live_29 : decode cX11_live 29 = .ok (.bipush 6, 2) := by decide +kernel
theorem dX11_live_31 : decode cX11_live 31 = .ok (.invokevirtual 90, 3) := by decide +kernel
theorem dX11_live_34 : decode cX11_live 34 = .ok (.ireturn, 1) := by decide +kernel
theorem dX11_live_35 : decode cX11_live 35 = .ok (.aload_n 0, 1) := by decide +kernel
theorem dX11_live_36 : decode cX11_live 36 = .ok (.iload_n 1, 1) := by decide +kernel
theorem dX11_live_37 : decode cX11_live 37 = .ok (.invokevirtual 473, 3) := by decide +kernel
theorem dX11_live_40 : decode cX11_live 40 = .ok (.iconst 0, 1) := by decide +kernel
theorem dX11_live_41 : decode cX11_live 41 = .ok (.istore_n 2, 1) := by decide +kernel
theorem dX11_live_42 : decode cX11_live 42 = .ok (.iload_n 2, 1) := by decide +kernel
theorem dX11_live_43 : decode cX11_live 43 = .ok (.iconst 5, 1) := by decide +kernel
theorem dX11_live_44 : decode cX11_live 44 = .ok (.if_icmp .ge 21, 3) := by decide +kernel
theorem dX11_live_47 : decode cX11_live 47 = .ok (.aload_n 0, 1) := by decide +kernel
theorem dX11_live_48 : decode cX11_live 48 = .ok (.getfield 77, 3) := by decide +kernel
theorem dX11_live_51 : decode cX11_live 51 = .ok (.iload_n 2, 1) := by decide +kernel
theorem dX11_live_52 : decode cX11_live 52 = .ok (.aload_n 0, 1) := by decide +kernel
theorem dX11_live_53 : decode cX11_live 53 = .ok (.getfield 74, 3) := by decide +kernel
theorem dX11_live_56 : decode cX11_live 56 = .ok (.iload_n 2, 1) := by decide +kernel
theorem dX11_live_57 : decode cX11_live 57 = .ok (.iaload, 1) := by decide +kernel
theorem dX11_live_58 : decode cX11_live 58 = .ok (.iastore, 1) := by decide +kernel
theorem dX11_live_59 : decode cX11_live 59 = .ok (.iinc 2 1, 3) := by decide +kernel
theorem dX11_live_62 : decode cX11_live 62 = .ok (.goto (-20), 3) := by decide +kernel
theorem dX11_live_65 : decode cX11_live 65 = .ok (.aload_n 0, 1) := by decide +kernel
theorem dX11_live_66 : decode cX11_live 66 = .ok (.iconst 1, 1) := by decide +kernel
theorem dX11_live_67 : decode cX11_live 67 = .ok (.putfield 476, 3) := by decide +kernel
theorem dX11_live_70 : decode cX11_live 70 = .ok (.aload_n 0, 1) := by decide +kernel
theorem dX11_live_71 : decode cX11_live 71 = .ok (.aload_n 0, 1) := by decide +kernel
theorem dX11_live_72 : decode cX11_live 72 = .ok (.getfield 459, 3) := by decide +kernel
theorem dX11_live_75 : decode cX11_live 75 = .ok (.invokevirtual 94, 3) := by decide +kernel
theorem dX11_live_78 : decode cX11_live 78 = .ok (.ireturn, 1) := by decide +kernel
theorem dX11_lived_0 : decode cX11_lived 0 = .ok (.iload_n 1, 1) := by decide +kernel
theorem dX11_lived_1 : decode cX11_lived 1 = .ok (.ifCond .lt 8, 3) := by decide +kernel
theorem dX11_lived_4 : decode cX11_lived 4 = .ok (.iload_n 1, 1) := by decide +kernel
theorem dX11_lived_5 : decode cX11_lived 5 = .ok (.iconst 4, 1) := by decide +kernel
theorem dX11_lived_6 : decode cX11_lived 6 = .ok (.if_icmp .le 11, 3) := by decide +kernel
theorem dX11_lived_9 : decode cX11_lived 9 = .ok (.aload_n 0, 1) := by decide +kernel
theorem dX11_lived_10 : decode cX11_lived 10 = .ok (.iconst 1, 1) := by decide +kernel
theorem dX11_lived_11 : decode cX11_lived 11 = .ok (.invokevirtual 90, 3) := by decide +kernel
theorem dX11_lived_14 : decode cX11_lived 14 = .ok (.goto 29, 3) := by decide +kernel
theorem dX11_lived_17 : decode cX11_lived 17 = .ok (.aload_n 0, 1) := by decide +kernel
theorem dX11_lived_18 : decode cX11_lived 18 = .ok (.getfield 476, 3) := by decide +kernel
theorem dX11_lived_21 : decode cX11_lived 21 = .ok (.ifCond .eq 16, 3) := by decide +kernel
theorem dX11_lived_24 : decode cX11_lived 24 = .ok (.aload_n 0, 1) := by decide +kernel
theorem dX11_lived_25 : decode cX11_lived 25 = .ok (.aload_n 0, 1) := by decide +kernel
theorem dX11_lived_26 : decode cX11_lived 26 = .ok (.getfield 77, 3) := by decide +kernel
theorem dX11_lived_29 : decode cX11_lived 29 = .ok (.iload_n 1, 1) := by decide +kernel
theorem dX11_lived_30 : decode cX11_lived 30 = .ok (.iaload, 1) := by decide +kernel
theorem dX11_lived_31 : decode cX11_lived 31 = .ok (.invokevirtual 94, 3) := by decide +kernel
theorem dX11_lived_34 : decode cX11_lived 34 = .ok (.goto 9, 3) := by decide +kernel
theorem dX11_lived_37 : decode cX11_lived 37 = .ok (.aload_n 0, 1) := by decide +kernel
theorem dX11_lived_38 : decode cX11_lived 38 = .ok (.bipush 6, 2) := by decide +kernel
theorem dX11_lived_40 : decode cX11_lived 40 = .ok (.invokevirtual 90, 3) := by decide +kernel
theorem dX11_lived_43 : decode cX11_lived 43 = .ok (.ireturn, 1) := by decide +kernel
theorem dX11_mean_0 : decode cX11_mean 0 = .ok (.iload_n 1, 1) := by decide +kernel
theorem dX11_mean_1 : decode cX11_mean 1 = .ok (.i2l, 1) := by decide +kernel
theorem dX11_mean_2 : decode cX11_mean 2 = .ok (.lconst 0, 1) := by decide +kernel
theorem dX11_mean_3 : decode cX11_mean 3 = .ok (.ldc2_w 471, 3) := by decide +kernel
theorem dX11_mean_6 : decode cX11_mean 6 = .ok (.invokestatic 337, 3) := by decide +kernel
theorem dX11_mean_9 : decode cX11_mean 9 = .ok (.ifCond .eq 26, 3) := by decide +kernel
theorem dX11_mean_12 : decode cX11_mean 12 = .ok (.iload_n 2, 1) := by decide +kernel
theorem dX11_mean_13 : decode cX11_mean 13 = .ok (.i2l, 1) := by decide +kernel
theorem dX11_mean_14 : decode cX11_mean 14 = .ok (.lconst 1, 1) := by decide +kernel
theorem dX11_mean_15 : decode cX11_mean 15 = .ok (.ldc2_w 479, 3) := by decide +kernel
theorem dX11_mean_18 : decode cX11_mean 18 = .ok (.invokestatic 337, 3) := by decide +kernel
theorem dX11_mean_21 : decode cX11_mean 21 = .ok (.ifCond .eq 14, 3) := by decide +kernel
theorem dX11_mean_24 : decode cX11_mean 24 = .ok (.iload_n 1, 1) := by decide +kernel
theorem dX11_mean_25 : decode cX11_mean 25 = .ok (.iload_n 2, 1) := by decide +kernel
theorem dX11_mean_26 : decode cX11_mean 26 = .ok (.iadd, 1) := by decide +kernel
theorem dX11_mean_27 : decode cX11_mean 27 = .ok (.iconst 1, 1) := by decide +kernel
theorem dX11_mean_28 : decode cX11_mean 28 = .ok (.isub, 1) := by decide +kernel
theorem dX11_mean_29 : decode cX11_mean 29 = .ok (.sipush 9999, 3) := by decide +kernel
theorem dX11_mean_32 : decode cX11_mean 32 = .ok (.if_icmp .le 9, 3) := by decide +kernel
theorem dX11_mean_35 : decode cX11_mean 35 = .ok (.aload_n 0, 1) := by decide +kernel
theorem dX11_mean_36 : decode cX11_mean 36 = .ok (.iconst 1, 1) := by decide +kernel
theorem dX11_mean_37 : decode cX11_mean 37 = .ok (.invokevirtual 103, 3) := by decide +kernel
theorem dX11_mean_40 : decode cX11_mean 40 = .ok (.ireturn, 1) := by decide +kernel
theorem dX11_mean_41 : decode cX11_mean 41 = .ok (.aload_n 0, 1) := by decide +kernel
theorem dX11_mean_42 : decode cX11_mean 42 = .ok (.getfield 7, 3) := by decide +kernel
theorem dX11_mean_45 : decode cX11_mean 45 = .ok (.iconst 4, 1) := by decide +kernel
theorem dX11_mean_46 : decode cX11_mean 46 = .ok (.iaload, 1) := by decide +kernel
theorem dX11_mean_47 : decode cX11_mean 47 = .ok (.iconst (-1), 1) := by decide +kernel
theorem dX11_mean_48 : decode cX11_mean 48 = .ok (.if_icmp .ne 10, 3) := by decide +kernel
theorem dX11_mean_51 : decode cX11_mean 51 = .ok (.aload_n 0, 1) := by decide +kernel
theorem dX11_mean_52 : decode cX11_mean 52 = .ok (.bipush 6, 2) := by decide +kernel
theorem dX11_mean_54 : decode cX11_mean 54 = .ok (.invokevirtual 103, 3) := by decide +kernel
theorem dX11_mean_57 : decode cX11_mean 57 = .ok (.ireturn, 1) := by decide +kernel
theorem dX11_mean_58 : decode cX11_mean 58 = .ok (.aload_n 0, 1) := by decide +kernel
theorem dX11_mean_59 : decode cX11_mean 59 = .ok (.sipush 2620, 3) := by decide +kernel
theorem dX11_mean_62 : decode cX11_mean 62 = .ok (.invokevirtual 361, 3) := by decide +kernel
theorem dX11_mean_65 : decode cX11_mean 65 = .ok (.lconst 0, 1) := by decide +kernel
theorem dX11_mean_66 : decode cX11_mean 66 = .ok (.lstore_n 3, 1) := by decide +kernel
theorem dX11_mean_67 : decode cX11_mean 67 = .ok (.iconst 0, 1) := by decide +kernel
theorem dX11_mean_68 : decode cX11_mean 68 = .ok (.istore 5, 2) := by decide +kernel
theorem dX11_mean_70 : decode cX11_mean 70 = .ok (.iload 5, 2) := by decide +kernel
theorem dX11_mean_72 : decode cX11_mean 72 = .ok (.iload_n 2, 1) := by decide +kernel
theorem dX11_mean_73 : decode cX11_mean 73 = .ok (.if_icmp .ge 32, 3) := by decide +kernel
theorem dX11_mean_76 : decode cX11_mean 76 = .ok (.aload_n 0, 1) := by decide +kernel
theorem dX11_mean_77 : decode cX11_mean 77 = .ok (.iload_n 1, 1) := by decide +kernel
theorem dX11_mean_78 : decode cX11_mean 78 = .ok (.iload 5, 2) := by decide +kernel
theorem dX11_mean_80 : decode cX11_mean 80 = .ok (.iadd, 1) := by decide +kernel
theorem dX11_mean_81 : decode cX11_mean 81 = .ok (.invokevirtual 473, 3) := by decide +kernel
theorem dX11_mean_84 : decode cX11_mean 84 = .ok (.lload_n 3, 1) := by decide +kernel
theorem dX11_mean_85 : decode cX11_mean 85 = .ok (.aload_n 0, 1) := by decide +kernel
theorem dX11_mean_86 : decode cX11_mean 86 = .ok (.invokevirtual 296, 3) := by decide +kernel
theorem dX11_mean_89 : decode cX11_mean 89 = .ok (.i2l, 1) := by decide +kernel
theorem dX11_mean_90 : decode cX11_mean 90 = .ok (.ladd, 1) := by decide +kernel
theorem dX11_mean_91 : decode cX11_mean 91 = .ok (.lstore_n 3, 1) := by decide +kernel
theorem dX11_mean_92 : decode cX11_mean 92 = .ok (.aload_n 0, 1) := by decide +kernel
theorem dX11_mean_93 : decode cX11_mean 93 = .ok (.sipush 2620, 3) := by decide +kernel
theorem dX11_mean_96 : decode cX11_mean 96 = .ok (.invokevirtual 364, 3) := by decide +kernel
theorem dX11_mean_99 : decode cX11_mean 99 = .ok (.iinc 5 1, 3) := by decide +kernel
theorem dX11_mean_102 : decode cX11_mean 102 = .ok (.goto (-32), 3) := by decide +kernel
theorem dX11_mean_105 : decode cX11_mean 105 = .ok (.aload_n 0, 1) := by decide +kernel
theorem dX11_mean_106 : decode cX11_mean 106 = .ok (.lload_n 3, 1) := by decide +kernel
theorem dX11_mean_107 : decode cX11_mean 107 = .ok (.iload_n 2, 1) := by decide +kernel
theorem dX11_mean_108 : decode cX11_mean 108 = .ok (.i2l, 1) := by decide +kernel
theorem dX11_mean_109 : decode cX11_mean 109 = .ok (.invokevirtual 430, 3) := by decide +kernel
theorem dX11_mean_112 : decode cX11_mean 112 = .ok (.ireturn, 1) := by decide +kernel
theorem dX11_copies_0 : decode cX11_copies 0 = .ok (.iconst 0, 1) := by decide +kernel
theorem dX11_copies_1 : decode cX11_copies 1 = .ok (.istore_n 3, 1) := by decide +kernel
theorem dX11_copies_2 : decode cX11_copies 2 = .ok (.iload_n 3, 1) := by decide +kernel
theorem dX11_copies_3 : decode cX11_copies 3 = .ok (.sipush 524, 3) := by decide +kernel
theorem dX11_copies_6 : decode cX11_copies 6 = .ok (.if_icmp .ge 33, 3) := by decide +kernel
theorem dX11_copies_9 : decode cX11_copies 9 = .ok (.aload_n 0, 1) := by decide +kernel
theorem dX11_copies_10 : decode cX11_copies 10 = .ok (.getfield 7, 3) := by decide +kernel
theorem dX11_copies_13 : decode cX11_copies 13 = .ok (.sipush 524, 3) := by decide +kernel
theorem dX11_copies_16 : decode cX11_copies 16 = .ok (.iload_n 2, 1) := by decide +kernel
theorem dX11_copies_17 : decode cX11_copies 17 = .ok (.imul, 1) := by decide +kernel
theorem dX11_copies_18 : decode cX11_copies 18 = .ok (.iload_n 3, 1) := by decide +kernel
theorem dX11_copies_19 : decode cX11_copies 19 = .ok (.iadd, 1) := by decide +kernel
theorem dX11_copies_20 : decode cX11_copies 20 = .ok (.aload_n 0, 1) := by decide +kernel
theorem dX11_copies_21 : decode cX11_copies 21 = .ok (.getfield 7, 3) := by decide +kernel
theorem dX11_copies_24 : decode cX11_copies 24 = .ok (.sipush 524, 3) := by decide +kernel
theorem dX11_copies_27 : decode cX11_copies 27 = .ok (.iload_n 1, 1) := by decide +kernel
theorem dX11_copies_28 : decode cX11_copies 28 = .ok (.imul, 1) := by decide +kernel
theorem dX11_copies_29 : decode cX11_copies 29 = .ok (.iload_n 3, 1) := by decide +kernel
theorem dX11_copies_30 : decode cX11_copies 30 = .ok (.iadd, 1) := by decide +kernel
theorem dX11_copies_31 : decode cX11_copies 31 = .ok (.iaload, 1) := by decide +kernel
theorem dX11_copies_32 : decode cX11_copies 32 = .ok (.iastore, 1) := by decide +kernel
theorem dX11_copies_33 : decode cX11_copies 33 = .ok (.iinc 3 1, 3) := by decide +kernel
theorem dX11_copies_36 : decode cX11_copies 36 = .ok (.goto (-34), 3) := by decide +kernel
theorem dX11_copies_39 : decode cX11_copies 39 = .ok (.iconst 0, 1) := by decide +kernel
theorem dX11_copies_40 : decode cX11_copies 40 = .ok (.istore_n 3, 1) := by decide +kernel
theorem dX11_copies_41 : decode cX11_copies 41 = .ok (.iload_n 3, 1) := by decide +kernel
theorem dX11_copies_42 : decode cX11_copies 42 = .ok (.bipush 21, 2) := by decide +kernel
theorem dX11_copies_44 : decode cX11_copies 44 = .ok (.if_icmp .ge 31, 3) := by decide +kernel
theorem dX11_copies_47 : decode cX11_copies 47 = .ok (.aload_n 0, 1) := by decide +kernel
theorem dX11_copies_48 : decode cX11_copies 48 = .ok (.getfield 13, 3) := by decide +kernel
theorem dX11_copies_51 : decode cX11_copies 51 = .ok (.bipush 21, 2) := by decide +kernel
theorem dX11_copies_53 : decode cX11_copies 53 = .ok (.iload_n 2, 1) := by decide +kernel
theorem dX11_copies_54 : decode cX11_copies 54 = .ok (.imul, 1) := by decide +kernel
theorem dX11_copies_55 : decode cX11_copies 55 = .ok (.iload_n 3, 1) := by decide +kernel
theorem dX11_copies_56 : decode cX11_copies 56 = .ok (.iadd, 1) := by decide +kernel
theorem dX11_copies_57 : decode cX11_copies 57 = .ok (.aload_n 0, 1) := by decide +kernel
theorem dX11_copies_58 : decode cX11_copies 58 = .ok (.getfield 13, 3) := by decide +kernel
theorem dX11_copies_61 : decode cX11_copies 61 = .ok (.bipush 21, 2) := by decide +kernel
theorem dX11_copies_63 : decode cX11_copies 63 = .ok (.iload_n 1, 1) := by decide +kernel
theorem dX11_copies_64 : decode cX11_copies 64 = .ok (.imul, 1) := by decide +kernel
theorem dX11_copies_65 : decode cX11_copies 65 = .ok (.iload_n 3, 1) := by decide +kernel
theorem dX11_copies_66 : decode cX11_copies 66 = .ok (.iadd, 1) := by decide +kernel
theorem dX11_copies_67 : decode cX11_copies 67 = .ok (.laload, 1) := by decide +kernel
theorem dX11_copies_68 : decode cX11_copies 68 = .ok (.lastore, 1) := by decide +kernel
theorem dX11_copies_69 : decode cX11_copies 69 = .ok (.iinc 3 1, 3) := by decide +kernel
theorem dX11_copies_72 : decode cX11_copies 72 = .ok (.goto (-31), 3) := by decide +kernel
theorem dX11_copies_75 : decode cX11_copies 75 = .ok (.return_, 1) := by decide +kernel
theorem dX11_mark_0 : decode cX11_mark 0 = .ok (.aload_n 0, 1) := by decide +kernel
theorem dX11_mark_1 : decode cX11_mark 1 = .ok (.getfield 481, 3) := by decide +kernel
theorem dX11_mark_4 : decode cX11_mark 4 = .ok (.iconst 3, 1) := by decide +kernel
theorem dX11_mark_5 : decode cX11_mark 5 = .ok (.if_icmp .ne 9, 3) := by decide +kernel
theorem dX11_mark_8 : decode cX11_mark 8 = .ok (.aload_n 0, 1) := by decide +kernel
theorem dX11_mark_9 : decode cX11_mark 9 = .ok (.iconst 4, 1) := by decide +kernel
theorem dX11_mark_10 : decode cX11_mark 10 = .ok (.invokevirtual 90, 3) := by decide +kernel
theorem dX11_mark_13 : decode cX11_mark 13 = .ok (.ireturn, 1) := by decide +kernel
theorem dX11_mark_14 : decode cX11_mark 14 = .ok (.aload_n 0, 1) := by decide +kernel
theorem dX11_mark_15 : decode cX11_mark 15 = .ok (.dup, 1) := by decide +kernel
theorem dX11_mark_16 : decode cX11_mark 16 = .ok (.getfield 481, 3) := by decide +kernel
theorem dX11_mark_19 : decode cX11_mark 19 = .ok (.iconst 1, 1) := by decide +kernel
theorem dX11_mark_20 : decode cX11_mark 20 = .ok (.iadd, 1) := by decide +kernel
theorem dX11_mark_21 : decode cX11_mark 21 = .ok (.putfield 481, 3) := by decide +kernel
theorem dX11_mark_24 : decode cX11_mark 24 = .ok (.aload_n 0, 1) := by decide +kernel
theorem dX11_mark_25 : decode cX11_mark 25 = .ok (.iconst 0, 1) := by decide +kernel
theorem dX11_mark_26 : decode cX11_mark 26 = .ok (.aload_n 0, 1) := by decide +kernel
theorem dX11_mark_27 : decode cX11_mark 27 = .ok (.getfield 481, 3) := by decide +kernel
theorem dX11_mark_30 : decode cX11_mark 30 = .ok (.invokevirtual 484, 3) := by decide +kernel
theorem dX11_mark_33 : decode cX11_mark 33 = .ok (.aload_n 0, 1) := by decide +kernel
theorem dX11_mark_34 : decode cX11_mark 34 = .ok (.aload_n 0, 1) := by decide +kernel
theorem dX11_mark_35 : decode cX11_mark 35 = .ok (.getfield 481, 3) := by decide +kernel
theorem dX11_mark_38 : decode cX11_mark 38 = .ok (.invokevirtual 94, 3) := by decide +kernel
theorem dX11_mark_41 : decode cX11_mark 41 = .ok (.ireturn, 1) := by decide +kernel
theorem dX11_undo_0 : decode cX11_undo 0 = .ok (.aload_n 0, 1) := by decide +kernel
theorem dX11_undo_1 : decode cX11_undo 1 = .ok (.getfield 481, 3) := by decide +kernel
theorem dX11_undo_4 : decode cX11_undo 4 = .ok (.ifCond .ne 10, 3) := by decide +kernel
theorem dX11_undo_7 : decode cX11_undo 7 = .ok (.aload_n 0, 1) := by decide +kernel
theorem dX11_undo_8 : decode cX11_undo 8 = .ok (.bipush 6, 2) := by decide +kernel
theorem dX11_undo_10 : decode cX11_undo 10 = .ok (.invokevirtual 90, 3) := by decide +kernel
theorem dX11_undo_13 : decode cX11_undo 13 = .ok (.ireturn, 1) := by decide +kernel
theorem dX11_undo_14 : decode cX11_undo 14 = .ok (.aload_n 0, 1) := by decide +kernel
theorem dX11_undo_15 : decode cX11_undo 15 = .ok (.aload_n 0, 1) := by decide +kernel
theorem dX11_undo_16 : decode cX11_undo 16 = .ok (.getfield 481, 3) := by decide +kernel
theorem dX11_undo_19 : decode cX11_undo 19 = .ok (.iconst 0, 1) := by decide +kernel
theorem dX11_undo_20 : decode cX11_undo 20 = .ok (.invokevirtual 484, 3) := by decide +kernel
theorem dX11_undo_23 : decode cX11_undo 23 = .ok (.aload_n 0, 1) := by decide +kernel
theorem dX11_undo_24 : decode cX11_undo 24 = .ok (.dup, 1) := by decide +kernel
theorem dX11_undo_25 : decode cX11_undo 25 = .ok (.getfield 481, 3) := by decide +kernel
theorem dX11_undo_28 : decode cX11_undo 28 = .ok (.iconst 1, 1) := by decide +kernel
theorem dX11_undo_29 : decode cX11_undo 29 = .ok (.isub, 1) := by decide +kernel
theorem dX11_undo_30 : decode cX11_undo 30 = .ok (.putfield 481, 3) := by decide +kernel
theorem dX11_undo_33 : decode cX11_undo 33 = .ok (.aload_n 0, 1) := by decide +kernel
theorem dX11_undo_34 : decode cX11_undo 34 = .ok (.aload_n 0, 1) := by decide +kernel
theorem dX11_undo_35 : decode cX11_undo 35 = .ok (.getfield 481, 3) := by decide +kernel
theorem dX11_undo_38 : decode cX11_undo 38 = .ok (.invokevirtual 94, 3) := by decide +kernel
theorem dX11_undo_41 : decode cX11_undo 41 = .ok (.ireturn, 1) := by decide +kernel
