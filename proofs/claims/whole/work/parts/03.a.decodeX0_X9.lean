theorem dX0_init_0 : decode cX0_init 0 = .ok (.aload_n 0, 1) := by decide +kernel
theorem dX0_init_1 : decode cX0_init 1 = .ok (.invokespecial 3, 3) := by decide +kernel
theorem dX0_init_4 : decode cX0_init 4 = .ok (.aload_n 0, 1) := by decide +kernel
theorem dX0_init_5 : decode cX0_init 5 = .ok (.bipush 10, 2) := by decide +kernel
theorem dX0_init_7 : decode cX0_init 7 = .ok (.newarray .long, 2) := by decide +kernel
theorem dX0_init_9 : decode cX0_init 9 = .ok (.putfield 9, 3) := by decide +kernel
theorem dX0_init_12 : decode cX0_init 12 = .ok (.aload_n 0, 1) := by decide +kernel
theorem dX0_init_13 : decode cX0_init 13 = .ok (.bipush 10, 2) := by decide +kernel
theorem dX0_init_15 : decode cX0_init 15 = .ok (.newarray .int, 2) := by decide +kernel
theorem dX0_init_17 : decode cX0_init 17 = .ok (.putfield 15, 3) := by decide +kernel
theorem dX0_init_20 : decode cX0_init 20 = .ok (.aload_n 0, 1) := by decide +kernel
theorem dX0_init_21 : decode cX0_init 21 = .ok (.bipush 10, 2) := by decide +kernel
theorem dX0_init_23 : decode cX0_init 23 = .ok (.newarray .int, 2) := by decide +kernel
theorem dX0_init_25 : decode cX0_init 25 = .ok (.putfield 19, 3) := by decide +kernel
theorem dX0_init_28 : decode cX0_init 28 = .ok (.aload_n 0, 1) := by decide +kernel
theorem dX0_init_29 : decode cX0_init 29 = .ok (.bipush 10, 2) := by decide +kernel
theorem dX0_init_31 : decode cX0_init 31 = .ok (.newarray .int, 2) := by decide +kernel
theorem dX0_init_33 : decode cX0_init 33 = .ok (.putfield 22, 3) := by decide +kernel
theorem dX0_init_36 : decode cX0_init 36 = .ok (.aload_n 0, 1) := by decide +kernel
theorem dX0_init_37 : decode cX0_init 37 = .ok (.bipush 10, 2) := by decide +kernel
theorem dX0_init_39 : decode cX0_init 39 = .ok (.newarray .int, 2) := by decide +kernel
theorem dX0_init_41 : decode cX0_init 41 = .ok (.putfield 25, 3) := by decide +kernel
theorem dX0_init_44 : decode cX0_init 44 = .ok (.aload_n 0, 1) := by decide +kernel
theorem dX0_init_45 : decode cX0_init 45 = .ok (.bipush 10, 2) := by decide +kernel
theorem dX0_init_47 : decode cX0_init 47 = .ok (.newarray .int, 2) := by decide +kernel
theorem dX0_init_49 : decode cX0_init 49 = .ok (.putfield 28, 3) := by decide +kernel
theorem dX0_init_52 : decode cX0_init 52 = .ok (.aload_n 0, 1) := by decide +kernel
theorem dX0_init_53 : decode cX0_init 53 = .ok (.bipush 12, 2) := by decide +kernel
theorem dX0_init_55 : decode cX0_init 55 = .ok (.newarray .int, 2) := by decide +kernel
theorem dX0_init_57 : decode cX0_init 57 = .ok (.putfield 31, 3) := by decide +kernel
theorem dX0_init_60 : decode cX0_init 60 = .ok (.return_, 1) := by decide +kernel
theorem dX0_clear_0 : decode cX0_clear 0 = .ok (.aload_n 0, 1) := by decide +kernel
theorem dX0_clear_1 : decode cX0_clear 1 = .ok (.iconst 0, 1) := by decide +kernel
theorem dX0_clear_2 : decode cX0_clear 2 = .ok (.putfield 34, 3) := by decide +kernel
theorem dX0_clear_5 : decode cX0_clear 5 = .ok (.aload_n 0, 1) := by decide +kernel
theorem dX0_clear_6 : decode cX0_clear 6 = .ok (.iconst 0, 1) := by decide +kernel
theorem dX0_clear_7 : decode cX0_clear 7 = .ok (.putfield 38, 3) := by decide +kernel
theorem dX0_clear_10 : decode cX0_clear 10 = .ok (.aload_n 0, 1) := by decide +kernel
theorem dX0_clear_11 : decode cX0_clear 11 = .ok (.iconst 0, 1) := by decide +kernel
theorem dX0_clear_12 : decode cX0_clear 12 = .ok (.putfield 41, 3) := by decide +kernel
theorem dX0_clear_15 : decode cX0_clear 15 = .ok (.aload_n 0, 1) := by decide +kernel
theorem dX0_clear_16 : decode cX0_clear 16 = .ok (.invokevirtual 44, 3) := by decide +kernel
theorem dX0_clear_19 : decode cX0_clear 19 = .ok (.return_, 1) := by decide +kernel
theorem dX0_clearRota_0 : decode cX0_clearRota 0 = .ok (.iconst 0, 1) := by decide +kernel
theorem dX0_clearRota_1 : decode cX0_clearRota 1 = .ok (.istore_n 1, 1) := by decide +kernel
theorem dX0_clearRota_2 : decode cX0_clearRota 2 = .ok (.iload_n 1, 1) := by decide +kernel
theorem dX0_clearRota_3 : decode cX0_clearRota 3 = .ok (.bipush 12, 2) := by decide +kernel
theorem dX0_clearRota_5 : decode cX0_clearRota 5 = .ok (.if_icmp .ge 16, 3) := by decide +kernel
theorem dX0_clearRota_8 : decode cX0_clearRota 8 = .ok (.aload_n 0, 1) := by decide +kernel
theorem dX0_clearRota_9 : decode cX0_clearRota 9 = .ok (.getfield 31, 3) := by decide +kernel
theorem dX0_clearRota_12 : decode cX0_clearRota 12 = .ok (.iload_n 1, 1) := by decide +kernel
theorem dX0_clearRota_13 : decode cX0_clearRota 13 = .ok (.iconst 0, 1) := by decide +kernel
theorem dX0_clearRota_14 : decode cX0_clearRota 14 = .ok (.iastore, 1) := by decide +kernel
theorem dX0_clearRota_15 : decode cX0_clearRota 15 = .ok (.iinc 1 1, 3) := by decide +kernel
theorem dX0_clearRota_18 : decode cX0_clearRota 18 = .ok (.goto (-16), 3) := by decide +kernel
theorem dX0_clearRota_21 : decode cX0_clearRota 21 = .ok (.return_, 1) := by decide +kernel
theorem dX0_add_0 : decode cX0_add 0 = .ok (.aload_n 0, 1) := by decide +kernel
theorem dX0_add_1 : decode cX0_add 1 = .ok (.getfield 34, 3) := by decide +kernel
theorem dX0_add_4 : decode cX0_add 4 = .ok (.bipush 10, 2) := by decide +kernel
theorem dX0_add_6 : decode cX0_add 6 = .ok (.if_icmp .lt 4, 3) := by decide +kernel
theorem dX0_add_9 : decode cX0_add 9 = .ok (.return_, 1) := by decide +kernel
theorem dX0_add_10 : decode cX0_add 10 = .ok (.aload_n 0, 1) := by decide +kernel
theorem dX0_add_11 : decode cX0_add 11 = .ok (.getfield 9, 3) := by decide +kernel
theorem dX0_add_14 : decode cX0_add 14 = .ok (.aload_n 0, 1) := by decide +kernel
theorem dX0_add_15 : decode cX0_add 15 = .ok (.getfield 34, 3) := by decide +kernel
theorem dX0_add_18 : decode cX0_add 18 = .ok (.lload_n 1, 1) := by decide +kernel
theorem dX0_add_19 : decode cX0_add 19 = .ok (.lastore, 1) := by decide +kernel
theorem dX0_add_20 : decode cX0_add 20 = .ok (.aload_n 0, 1) := by decide +kernel
theorem dX0_add_21 : decode cX0_add 21 = .ok (.getfield 15, 3) := by decide +kernel
theorem dX0_add_24 : decode cX0_add 24 = .ok (.aload_n 0, 1) := by decide +kernel
theorem dX0_add_25 : decode cX0_add 25 = .ok (.getfield 34, 3) := by decide +kernel
theorem dX0_add_28 : decode cX0_add 28 = .ok (.iload_n 3, 1) := by decide +kernel
theorem dX0_add_29 : decode cX0_add 29 = .ok (.iastore, 1) := by decide +kernel
theorem dX0_add_30 : decode cX0_add 30 = .ok (.aload_n 0, 1) := by decide +kernel
theorem dX0_add_31 : decode cX0_add 31 = .ok (.getfield 19, 3) := by decide +kernel
theorem dX0_add_34 : decode cX0_add 34 = .ok (.aload_n 0, 1) := by decide +kernel
theorem dX0_add_35 : decode cX0_add 35 = .ok (.getfield 34, 3) := by decide +kernel
theorem dX0_add_38 : decode cX0_add 38 = .ok (.iload 4, 2) := by decide +kernel
theorem dX0_add_40 : decode cX0_add 40 = .ok (.iastore, 1) := by decide +kernel
theorem dX0_add_41 : decode cX0_add 41 = .ok (.aload_n 0, 1) := by decide +kernel
theorem dX0_add_42 : decode cX0_add 42 = .ok (.getfield 22, 3) := by decide +kernel
theorem dX0_add_45 : decode cX0_add 45 = .ok (.aload_n 0, 1) := by decide +kernel
theorem dX0_add_46 : decode cX0_add 46 = .ok (.getfield 34, 3) := by decide +kernel
theorem dX0_add_49 : decode cX0_add 49 = .ok (.iload 5, 2) := by decide +kernel
theorem dX0_add_51 : decode cX0_add 51 = .ok (.iastore, 1) := by decide +kernel
theorem dX0_add_52 : decode cX0_add 52 = .ok (.aload_n 0, 1) := by decide +kernel
theorem dX0_add_53 : decode cX0_add 53 = .ok (.getfield 25, 3) := by decide +kernel
theorem dX0_add_56 : decode cX0_add 56 = .ok (.aload_n 0, 1) := by decide +kernel
theorem dX0_add_57 : decode cX0_add 57 = .ok (.getfield 34, 3) := by decide +kernel
theorem dX0_add_60 : decode cX0_add 60 = .ok (.iload 6, 2) := by decide +kernel
theorem dX0_add_62 : decode cX0_add 62 = .ok (.iastore, 1) := by decide +kernel
theorem dX0_add_63 : decode cX0_add 63 = .ok (.aload_n 0, 1) := by decide +kernel
theorem dX0_add_64 : decode cX0_add 64 = .ok (.getfield 28, 3) := by decide +kernel
theorem dX0_add_67 : decode cX0_add 67 = .ok (.aload_n 0, 1) := by decide +kernel
theorem dX0_add_68 : decode cX0_add 68 = .ok (.getfield 34, 3) := by decide +kernel
theorem dX0_add_71 : decode cX0_add 71 = .ok (.iload 7, 2) := by decide +kernel
theorem dX0_add_73 : decode cX0_add 73 = .ok (.iastore, 1) := by decide +kernel
theorem dX0_add_74 : decode cX0_add 74 = .ok (.aload_n 0, 1) := by decide +kernel
theorem dX0_add_75 : decode cX0_add 75 = .ok (.dup, 1) := by decide +kernel
theorem dX0_add_76 : decode cX0_add 76 = .ok (.getfield 34, 3) := by decide +kernel
theorem dX0_add_79 : decode cX0_add 79 = .ok (.iconst 1, 1) := by decide +kernel
theorem dX0_add_80 : decode cX0_add 80 = .ok (.iadd, 1) := by decide +kernel
theorem dX0_add_81 : decode cX0_add 81 = .ok (.putfield 34, 3) := by decide +kernel
theorem dX0_add_84 : decode cX0_add 84 = .ok (.return_, 1) := by decide +kernel
theorem dX0_copyFrom_0 : decode cX0_copyFrom 0 = .ok (.aload_n 0, 1) := by decide +kernel
theorem dX0_copyFrom_1 : decode cX0_copyFrom 1 = .ok (.aload_n 1, 1) := by decide +kernel
theorem dX0_copyFrom_2 : decode cX0_copyFrom 2 = .ok (.getfield 34, 3) := by decide +kernel
theorem dX0_copyFrom_5 : decode cX0_copyFrom 5 = .ok (.putfield 34, 3) := by decide +kernel
theorem dX0_copyFrom_8 : decode cX0_copyFrom 8 = .ok (.aload_n 0, 1) := by decide +kernel
theorem dX0_copyFrom_9 : decode cX0_copyFrom 9 = .ok (.aload_n 1, 1) := by decide +kernel
theorem dX0_copyFrom_10 : decode cX0_copyFrom 10 = .ok (.getfield 38, 3) := by decide +kernel
theorem dX0_copyFrom_13 : decode cX0_copyFrom 13 = .ok (.putfield 38, 3) := by decide +kernel
theorem dX0_copyFrom_16 : decode cX0_copyFrom 16 = .ok (.aload_n 0, 1) := by decide +kernel
theorem dX0_copyFrom_17 : decode cX0_copyFrom 17 = .ok (.aload_n 1, 1) := by decide +kernel
theorem dX0_copyFrom_18 : decode cX0_copyFrom 18 = .ok (.getfield 41, 3) := by decide +kernel
theorem dX0_copyFrom_21 : decode cX0_copyFrom 21 = .ok (.putfield 41, 3) := by decide +kernel
theorem dX0_copyFrom_24 : decode cX0_copyFrom 24 = .ok (.aload_n 1, 1) := by decide +kernel
theorem dX0_copyFrom_25 : decode cX0_copyFrom 25 = .ok (.getfield 9, 3) := by decide +kernel
theorem dX0_copyFrom_28 : decode cX0_copyFrom 28 = .ok (.iconst 0, 1) := by decide +kernel
theorem dX0_copyFrom_29 : decode cX0_copyFrom 29 = .ok (.aload_n 0, 1) := by decide +kernel
theorem dX0_copyFrom_30 : decode cX0_copyFrom 30 = .ok (.getfield 9, 3) := by decide +kernel
theorem dX0_copyFrom_33 : decode cX0_copyFrom 33 = .ok (.iconst 0, 1) := by decide +kernel
theorem dX0_copyFrom_34 : decode cX0_copyFrom 34 = .ok (.bipush 10, 2) := by decide +kernel
theorem dX0_copyFrom_36 : decode cX0_copyFrom 36 = .ok (.invokestatic 47, 3) := by decide +kernel
theorem dX0_copyFrom_39 : decode cX0_copyFrom 39 = .ok (.aload_n 1, 1) := by decide +kernel
theorem dX0_copyFrom_40 : decode cX0_copyFrom 40 = .ok (.getfield 15, 3) := by decide +kernel
theorem dX0_copyFrom_43 : decode cX0_copyFrom 43 = .ok (.iconst 0, 1) := by decide +kernel
theorem dX0_copyFrom_44 : decode cX0_copyFrom 44 = .ok (.aload_n 0, 1) := by decide +kernel
theorem dX0_copyFrom_45 : decode cX0_copyFrom 45 = .ok (.getfield 15, 3) := by decide +kernel
theorem dX0_copyFrom_48 : decode cX0_copyFrom 48 = .ok (.iconst 0, 1) := by decide +kernel
theorem dX0_copyFrom_49 : decode cX0_copyFrom 49 = .ok (.bipush 10, 2) := by decide +kernel
theorem dX0_copyFrom_51 : decode cX0_copyFrom 51 = .ok (.invokestatic 47, 3) := by decide +kernel
theorem dX0_copyFrom_54 : decode cX0_copyFrom 54 = .ok (.aload_n 1, 1) := by decide +kernel
theorem dX0_copyFrom_55 : decode cX0_copyFrom 55 = .ok (.getfield 19, 3) := by decide +kernel
theorem dX0_copyFrom_58 : decode cX0_copyFrom 58 = .ok (.iconst 0, 1) := by decide +kernel
theorem dX0_copyFrom_59 : decode cX0_copyFrom 59 = .ok (.aload_n 0, 1) := by decide +kernel
theorem dX0_copyFrom_60 : decode cX0_copyFrom 60 = .ok (.getfield 19, 3) := by decide +kernel
theorem dX0_copyFrom_63 : decode cX0_copyFrom 63 = .ok (.iconst 0, 1) := by decide +kernel
theorem dX0_copyFrom_64 : decode cX0_copyFrom 64 = .ok (.bipush 10, 2) := by decide +kernel
theorem dX0_copyFrom_66 : decode cX0_copyFrom 66 = .ok (.invokestatic 47, 3) := by decide +kernel
theorem dX0_copyFrom_69 : decode cX0_copyFrom 69 = .ok (.aload_n 1, 1) := by decide +kernel
theorem dX0_copyFrom_70 : decode cX0_copyFrom 70 = .ok (.getfield 22, 3) := by decide +kernel
theorem dX0_copyFrom_73 : decode cX0_copyFrom 73 = .ok (.iconst 0, 1) := by decide +kernel
theorem dX0_copyFrom_74 : decode cX0_copyFrom 74 = .ok (.aload_n 0, 1) := by decide +kernel
theorem dX0_copyFrom_75 : decode cX0_copyFrom 75 = .ok (.getfield 22, 3) := by decide +kernel
theorem dX0_copyFrom_78 : decode cX0_copyFrom 78 = .ok (.iconst 0, 1) := by decide +kernel
theorem dX0_copyFrom_79 : decode cX0_copyFrom 79 = .ok (.bipush 10, 2) := by decide +kernel
theorem dX0_copyFrom_81 : decode cX0_copyFrom 81 = .ok (.invokestatic 47, 3) := by decide +kernel
theorem dX0_copyFrom_84 : decode cX0_copyFrom 84 = .ok (.aload_n 1, 1) := by decide +kernel
theorem dX0_copyFrom_85 : decode cX0_copyFrom 85 = .ok (.getfield 25, 3) := by decide +kernel
theorem dX0_copyFrom_88 : decode cX0_copyFrom 88 = .ok (.iconst 0, 1) := by decide +kernel
theorem dX0_copyFrom_89 : decode cX0_copyFrom 89 = .ok (.aload_n 0, 1) := by decide +kernel
theorem dX0_copyFrom_90 : decode cX0_copyFrom 90 = .ok (.getfield 25, 3) := by decide +kernel
theorem dX0_copyFrom_93 : decode cX0_copyFrom 93 = .ok (.iconst 0, 1) := by decide +kernel
theorem dX0_copyFrom_94 : decode cX0_copyFrom 94 = .ok (.bipush 10, 2) := by decide +kernel
theorem dX0_copyFrom_96 : decode cX0_copyFrom 96 = .ok (.invokestatic 47, 3) := by decide +kernel
theorem dX0_copyFrom_99 : decode cX0_copyFrom 99 = .ok (.aload_n 1, 1) := by decide +kernel
theorem dX0_copyFrom_100 : decode cX0_copyFrom 100 = .ok (.getfield 28, 3) := by decide +kernel
theorem dX0_copyFrom_103 : decode cX0_copyFrom 103 = .ok (.iconst 0, 1) := by decide +kernel
theorem dX0_copyFrom_104 : decode cX0_copyFrom 104 = .ok (.aload_n 0, 1) := by decide +kernel
theorem dX0_copyFrom_105 : decode cX0_copyFrom 105 = .ok (.getfield 28, 3) := by decide +kernel
theorem dX0_copyFrom_108 : decode cX0_copyFrom 108 = .ok (.iconst 0, 1) := by decide +kernel
theorem dX0_copyFrom_109 : decode cX0_copyFrom 109 = .ok (.bipush 10, 2) := by decide +kernel
theorem dX0_copyFrom_111 : decode cX0_copyFrom 111 = .ok (.invokestatic 47, 3) := by decide +kernel
theorem dX0_copyFrom_114 : decode cX0_copyFrom 114 = .ok (.aload_n 1, 1) := by decide +kernel
theorem dX0_copyFrom_115 : decode cX0_copyFrom 115 = .ok (.getfield 31, 3) := by decide +kernel
theorem dX0_copyFrom_118 : decode cX0_copyFrom 118 = .ok (.iconst 0, 1) := by decide +kernel
theorem dX0_copyFrom_119 : decode cX0_copyFrom 119 = .ok (.aload_n 0, 1) := by decide +kernel
theorem dX0_copyFrom_120 : decode cX0_copyFrom 120 = .ok (.getfield 31, 3) := by decide +kernel
theorem dX0_copyFrom_123 : decode cX0_copyFrom 123 = .ok (.iconst 0, 1) := by decide +kernel
theorem dX0_copyFrom_124 : decode cX0_copyFrom 124 = .ok (.bipush 12, 2) := by decide +kernel
theorem dX0_copyFrom_126 : decode cX0_copyFrom 126 = .ok (.invokestatic 47, 3) := by decide +kernel
theorem dX0_copyFrom_129 : decode cX0_copyFrom 129 = .ok (.return_, 1) := by decide +kernel
theorem dX0_indexOf_0 : decode cX0_indexOf 0 = .ok (.aload_n 0, 1) := by decide +kernel
theorem dX0_indexOf_1 : decode cX0_indexOf 1 = .ok (.getfield 9, 3) := by decide +kernel
theorem dX0_indexOf_4 : decode cX0_indexOf 4 = .ok (.aload_n 0, 1) := by decide +kernel
theorem dX0_indexOf_5 : decode cX0_indexOf 5 = .ok (.getfield 34, 3) := by decide +kernel
theorem dX0_indexOf_8 : decode cX0_indexOf 8 = .ok (.lload_n 1, 1) := by decide +kernel
theorem dX0_indexOf_9 : decode cX0_indexOf 9 = .ok (.invokestatic 53, 3) := by decide +kernel
theorem dX0_indexOf_12 : decode cX0_indexOf 12 = .ok (.ireturn, 1) := by decide +kernel
theorem dX0_all_0 : decode cX0_all 0 = .ok (.iconst 1, 1) := by decide +kernel
theorem dX0_all_1 : decode cX0_all 1 = .ok (.aload_n 0, 1) := by decide +kernel
theorem dX0_all_2 : decode cX0_all 2 = .ok (.getfield 34, 3) := by decide +kernel
theorem dX0_all_5 : decode cX0_all 5 = .ok (.ishl, 1) := by decide +kernel
theorem dX0_all_6 : decode cX0_all 6 = .ok (.iconst 1, 1) := by decide +kernel
theorem dX0_all_7 : decode cX0_all 7 = .ok (.isub, 1) := by decide +kernel
theorem dX0_all_8 : decode cX0_all 8 = .ok (.ireturn, 1) := by decide +kernel
theorem dX0_isHeld_0 : decode cX0_isHeld 0 = .ok (.aload_n 0, 1) := by decide +kernel
theorem dX0_isHeld_1 : decode cX0_isHeld 1 = .ok (.getfield 38, 3) := by decide +kernel
theorem dX0_isHeld_4 : decode cX0_isHeld 4 = .ok (.iload_n 1, 1) := by decide +kernel
theorem dX0_isHeld_5 : decode cX0_isHeld 5 = .ok (.ishr, 1) := by decide +kernel
theorem dX0_isHeld_6 : decode cX0_isHeld 6 = .ok (.iconst 1, 1) := by decide +kernel
theorem dX0_isHeld_7 : decode cX0_isHeld 7 = .ok (.iand, 1) := by decide +kernel
theorem dX0_isHeld_8 : decode cX0_isHeld 8 = .ok (.iconst 1, 1) := by decide +kernel
theorem dX0_isHeld_9 : decode cX0_isHeld 9 = .ok (.if_icmp .ne 7, 3) := by decide +kernel
theorem dX0_isHeld_12 : decode cX0_isHeld 12 = .ok (.iconst 1, 1) := by decide +kernel
theorem dX0_isHeld_13 : decode cX0_isHeld 13 = .ok (.goto 4, 3) := by decide +kernel
theorem dX0_isHeld_16 : decode cX0_isHeld 16 = .ok (.iconst 0, 1) := by decide +kernel
theorem dX0_isHeld_17 : decode cX0_isHeld 17 = .ok (.ireturn, 1) := by decide +kernel
theorem dX0_isWalled_0 : decode cX0_isWalled 0 = .ok (.aload_n 0, 1) := by decide +kernel
theorem dX0_isWalled_1 : decode cX0_isWalled 1 = .ok (.getfield 41, 3) := by decide +kernel
theorem dX0_isWalled_4 : decode cX0_isWalled 4 = .ok (.iload_n 1, 1) := by decide +kernel
theorem dX0_isWalled_5 : decode cX0_isWalled 5 = .ok (.ishr, 1) := by decide +kernel
theorem dX0_isWalled_6 : decode cX0_isWalled 6 = .ok (.iconst 1, 1) := by decide +kernel
theorem dX0_isWalled_7 : decode cX0_isWalled 7 = .ok (.iand, 1) := by decide +kernel
theorem dX0_isWalled_8 : decode cX0_isWalled 8 = .ok (.iconst 1, 1) := by decide +kernel
theorem dX0_isWalled_9 : decode cX0_isWalled 9 = .ok (.if_icmp .ne 7, 3) := by decide +kernel
theorem dX0_isWalled_12 : decode cX0_isWalled 12 = .ok (.iconst 1, 1) := by decide +kernel
theorem dX0_isWalled_13 : decode cX0_isWalled 13 = .ok (.goto 4, 3) := by decide +kernel
theorem dX0_isWalled_16 : decode cX0_isWalled 16 = .ok (.iconst 0, 1) := by decide +kernel
theorem dX0_isWalled_17 : decode cX0_isWalled 17 = .ok (.ireturn, 1) := by decide +kernel
theorem dX0_openJust_0 : decode cX0_openJust 0 = .ok (.aload_n 0, 1) := by decide +kernel
theorem dX0_openJust_1 : decode cX0_openJust 1 = .ok (.invokevirtual 44, 3) := by decide +kernel
theorem dX0_openJust_4 : decode cX0_openJust 4 = .ok (.aload_n 0, 1) := by decide +kernel
theorem dX0_openJust_5 : decode cX0_openJust 5 = .ok (.iload_n 1, 1) := by decide +kernel
theorem dX0_openJust_6 : decode cX0_openJust 6 = .ok (.putfield 38, 3) := by decide +kernel
theorem dX0_openJust_9 : decode cX0_openJust 9 = .ok (.return_, 1) := by decide +kernel
theorem dX0_hoursOnRota_0 : decode cX0_hoursOnRota 0 = .ok (.iconst 0, 1) := by decide +kernel
theorem dX0_hoursOnRota_1 : decode cX0_hoursOnRota 1 = .ok (.istore_n 2, 1) := by decide +kernel
theorem dX0_hoursOnRota_2 : decode cX0_hoursOnRota 2 = .ok (.iconst 0, 1) := by decide +kernel
theorem dX0_hoursOnRota_3 : decode cX0_hoursOnRota 3 = .ok (.istore_n 3, 1) := by decide +kernel
theorem dX0_hoursOnRota_4 : decode cX0_hoursOnRota 4 = .ok (.iload_n 3, 1) := by decide +kernel
theorem dX0_hoursOnRota_5 : decode cX0_hoursOnRota 5 = .ok (.bipush 12, 2) := by decide +kernel
theorem dX0_hoursOnRota_7 : decode cX0_hoursOnRota 7 = .ok (.if_icmp .ge 29, 3) := by decide +kernel
theorem dX0_hoursOnRota_10 : decode cX0_hoursOnRota 10 = .ok (.aload_n 0, 1) := by decide +kernel
theorem dX0_hoursOnRota_11 : decode cX0_hoursOnRota 11 = .ok (.getfield 31, 3) := by decide +kernel
theorem dX0_hoursOnRota_14 : decode cX0_hoursOnRota 14 = .ok (.iload_n 3, 1) := by decide +kernel
theorem dX0_hoursOnRota_15 : decode cX0_hoursOnRota 15 = .ok (.iaload, 1) := by decide +kernel
theorem dX0_hoursOnRota_16 : decode cX0_hoursOnRota 16 = .ok (.iload_n 1, 1) := by decide +kernel
theorem dX0_hoursOnRota_17 : decode cX0_hoursOnRota 17 = .ok (.ishr, 1) := by decide +kernel
theorem dX0_hoursOnRota_18 : decode cX0_hoursOnRota 18 = .ok (.iconst 1, 1) := by decide +kernel
theorem dX0_hoursOnRota_19 : decode cX0_hoursOnRota 19 = .ok (.iand, 1) := by decide +kernel
theorem dX0_hoursOnRota_20 : decode cX0_hoursOnRota 20 = .ok (.iconst 1, 1) := by decide +kernel
theorem dX0_hoursOnRota_21 : decode cX0_hoursOnRota 21 = .ok (.if_icmp .ne 9, 3) := by decide +kernel
theorem dX0_hoursOnRota_24 : decode cX0_hoursOnRota 24 = .ok (.iload_n 2, 1) := by decide +kernel
theorem dX0_hoursOnRota_25 : decode cX0_hoursOnRota 25 = .ok (.iconst 1, 1) := by decide +kernel
theorem dX0_hoursOnRota_26 : decode cX0_hoursOnRota 26 = .ok (.iload_n 3, 1) := by decide +kernel
theorem dX0_hoursOnRota_27 : decode cX0_hoursOnRota 27 = .ok (.ishl, 1) := by decide +kernel
theorem dX0_hoursOnRota_28 : decode cX0_hoursOnRota 28 = .ok (.ior, 1) := by decide +kernel
theorem dX0_hoursOnRota_29 : decode cX0_hoursOnRota 29 = .ok (.istore_n 2, 1) := by decide +kernel
theorem dX0_hoursOnRota_30 : decode cX0_hoursOnRota 30 = .ok (.iinc 3 1, 3) := by decide +kernel
theorem dX0_hoursOnRota_33 : decode cX0_hoursOnRota 33 = .ok (.goto (-29), 3) := by decide +kernel
theorem dX0_hoursOnRota_36 : decode cX0_hoursOnRota 36 = .ok (.iload_n 2, 1) := by decide +kernel
theorem dX0_hoursOnRota_37 : decode cX0_hoursOnRota 37 = .ok (.ireturn, 1) := by decide +kernel
theorem dX0_toSea_0 : decode cX0_toSea 0 = .ok (.iconst 0, 1) := by decide +kernel
theorem dX0_toSea_1 : decode cX0_toSea 1 = .ok (.istore_n 1, 1) := by decide +kernel
theorem dX0_toSea_2 : decode cX0_toSea 2 = .ok (.iconst 0, 1) := by decide +kernel
theorem dX0_toSea_3 : decode cX0_toSea 3 = .ok (.istore_n 2, 1) := by decide +kernel
theorem dX0_toSea_4 : decode cX0_toSea 4 = .ok (.iload_n 2, 1) := by decide +kernel
theorem dX0_toSea_5 : decode cX0_toSea 5 = .ok (.aload_n 0, 1) := by decide +kernel
theorem dX0_toSea_6 : decode cX0_toSea 6 = .ok (.getfield 34, 3) := by decide +kernel
theorem dX0_toSea_9 : decode cX0_toSea 9 = .ok (.if_icmp .ge 37, 3) := by decide +kernel
theorem dX0_toSea_12 : decode cX0_toSea 12 = .ok (.aload_n 0, 1) := by decide +kernel
theorem dX0_toSea_13 : decode cX0_toSea 13 = .ok (.getfield 15, 3) := by decide +kernel
theorem dX0_toSea_16 : decode cX0_toSea 16 = .ok (.iload_n 2, 1) := by decide +kernel
theorem dX0_toSea_17 : decode cX0_toSea 17 = .ok (.iaload, 1) := by decide +kernel
theorem dX0_toSea_18 : decode cX0_toSea 18 = .ok (.bipush 7, 2) := by decide +kernel
theorem dX0_toSea_20 : decode cX0_toSea 20 = .ok (.if_icmp .eq 14, 3) := by decide +kernel
theorem dX0_toSea_23 : decode cX0_toSea 23 = .ok (.aload_n 0, 1) := by decide +kernel
theorem dX0_toSea_24 : decode cX0_toSea 24 = .ok (.getfield 19, 3) := by decide +kernel
theorem dX0_toSea_27 : decode cX0_toSea 27 = .ok (.iload_n 2, 1) := by decide +kernel
theorem dX0_toSea_28 : decode cX0_toSea 28 = .ok (.iaload, 1) := by decide +kernel
theorem dX0_toSea_29 : decode cX0_toSea 29 = .ok (.bipush 7, 2) := by decide +kernel
theorem dX0_toSea_31 : decode cX0_toSea 31 = .ok (.if_icmp .ne 9, 3) := by decide +kernel
theorem dX0_toSea_34 : decode cX0_toSea 34 = .ok (.iload_n 1, 1) := by decide +kernel
theorem dX0_toSea_35 : decode cX0_toSea 35 = .ok (.iconst 1, 1) := by decide +kernel
theorem dX0_toSea_36 : decode cX0_toSea 36 = .ok (.iload_n 2, 1) := by decide +kernel
theorem dX0_toSea_37 : decode cX0_toSea 37 = .ok (.ishl, 1) := by decide +kernel
theorem dX0_toSea_38 : decode cX0_toSea 38 = .ok (.ior, 1) := by decide +kernel
theorem dX0_toSea_39 : decode cX0_toSea 39 = .ok (.istore_n 1, 1) := by decide +kernel
theorem dX0_toSea_40 : decode cX0_toSea 40 = .ok (.iinc 2 1, 3) := by decide +kernel
theorem dX0_toSea_43 : decode cX0_toSea 43 = .ok (.goto (-39), 3) := by decide +kernel
theorem dX0_toSea_46 : decode cX0_toSea 46 = .ok (.iload_n 1, 1) := by decide +kernel
theorem dX0_toSea_47 : decode cX0_toSea 47 = .ok (.ireturn, 1) := by decide +kernel
theorem dX0_reached_0 : decode cX0_reached 0 = .ok (.iload_n 1, 1) := by decide +kernel
theorem dX0_reached_1 : decode cX0_reached 1 = .ok (.istore_n 3, 1) := by decide +kernel
theorem dX0_reached_2 : decode cX0_reached 2 = .ok (.iconst 0, 1) := by decide +kernel
theorem dX0_reached_3 : decode cX0_reached 3 = .ok (.istore 4, 2) := by decide +kernel
theorem dX0_reached_5 : decode cX0_reached 5 = .ok (.iload 4, 2) := by decide +kernel
theorem dX0_reached_7 : decode cX0_reached 7 = .ok (.bipush 7, 2) := by decide +kernel
theorem dX0_reached_9 : decode cX0_reached 9 = .ok (.if_icmp .gt 70, 3) := by decide +kernel
theorem dX0_reached_12 : decode cX0_reached 12 = .ok (.iconst 0, 1) := by decide +kernel
theorem dX0_reached_13 : decode cX0_reached 13 = .ok (.istore 5, 2) := by decide +kernel
theorem dX0_reached_15 : decode cX0_reached 15 = .ok (.iload 5, 2) := by decide +kernel
theorem dX0_reached_17 : decode cX0_reached 17 = .ok (.aload_n 0, 1) := by decide +kernel
theorem dX0_reached_18 : decode cX0_reached 18 = .ok (.getfield 34, 3) := by decide +kernel
theorem dX0_reached_21 : decode cX0_reached 21 = .ok (.if_icmp .ge 52, 3) := by decide +kernel
theorem dX0_reached_24 : decode cX0_reached 24 = .ok (.iconst 1, 1) := by decide +kernel
theorem dX0_reached_25 : decode cX0_reached 25 = .ok (.aload_n 0, 1) := by decide +kernel
theorem dX0_reached_26 : decode cX0_reached 26 = .ok (.getfield 15, 3) := by decide +kernel
theorem dX0_reached_29 : decode cX0_reached 29 = .ok (.iload 5, 2) := by decide +kernel
theorem dX0_reached_31 : decode cX0_reached 31 = .ok (.iaload, 1) := by decide +kernel
theorem dX0_reached_32 : decode cX0_reached 32 = .ok (.ishl, 1) := by decide +kernel
theorem dX0_reached_33 : decode cX0_reached 33 = .ok (.iconst 1, 1) := by decide +kernel
theorem dX0_reached_34 : decode cX0_reached 34 = .ok (.aload_n 0, 1) := by decide +kernel
theorem dX0_reached_35 : decode cX0_reached 35 = .ok (.getfield 19, 3) := by decide +kernel
theorem dX0_reached_38 : decode cX0_reached 38 = .ok (.iload 5, 2) := by decide +kernel
theorem dX0_reached_40 : decode cX0_reached 40 = .ok (.iaload, 1) := by decide +kernel
theorem dX0_reached_41 : decode cX0_reached 41 = .ok (.ishl, 1) := by decide +kernel
theorem dX0_reached_42 : decode cX0_reached 42 = .ok (.ior, 1) := by decide +kernel
theorem dX0_reached_43 : decode cX0_reached 43 = .ok (.istore 6, 2) := by decide +kernel
theorem dX0_reached_45 : decode cX0_reached 45 = .ok (.iload_n 2, 1) := by decide +kernel
theorem dX0_reached_46 : decode cX0_reached 46 = .ok (.iload 5, 2) := by decide +kernel
theorem dX0_reached_48 : decode cX0_reached 48 = .ok (.ishr, 1) := by decide +kernel
theorem dX0_reached_49 : decode cX0_reached 49 = .ok (.iconst 1, 1) := by decide +kernel
theorem dX0_reached_50 : decode cX0_reached 50 = .ok (.iand, 1) := by decide +kernel
theorem dX0_reached_51 : decode cX0_reached 51 = .ok (.iconst 1, 1) := by decide +kernel
theorem dX0_reached_52 : decode cX0_reached 52 = .ok (.if_icmp .ne 15, 3) := by decide +kernel
theorem dX0_reached_55 : decode cX0_reached 55 = .ok (.iload_n 3, 1) := by decide +kernel
theorem dX0_reached_56 : decode cX0_reached 56 = .ok (.iload 6, 2) := by decide +kernel
theorem dX0_reached_58 : decode cX0_reached 58 = .ok (.iand, 1) := by decide +kernel
theorem dX0_reached_59 : decode cX0_reached 59 = .ok (.ifCond .eq 8, 3) := by decide +kernel
theorem dX0_reached_62 : decode cX0_reached 62 = .ok (.iload_n 3, 1) := by decide +kernel
theorem dX0_reached_63 : decode cX0_reached 63 = .ok (.iload 6, 2) := by decide +kernel
theorem dX0_reached_65 : decode cX0_reached 65 = .ok (.ior, 1) := by decide +kernel
theorem dX0_reached_66 : decode cX0_reached 66 = .ok (.istore_n 3, 1) := by decide +kernel
theorem dX0_reached_67 : decode cX0_reached 67 = .ok (.iinc 5 1, 3) := by decide +kernel
theorem dX0_reached_70 : decode cX0_reached 70 = .ok (.goto (-55), 3) := by decide +kernel
theorem dX0_reached_73 : decode cX0_reached 73 = .ok (.iinc 4 1, 3) := by decide +kernel
theorem dX0_reached_76 : decode cX0_reached 76 = .ok (.goto (-71), 3) := by decide +kernel
theorem dX0_reached_79 : decode cX0_reached 79 = .ok (.iload_n 3, 1) := by decide +kernel
theorem dX0_reached_80 : decode cX0_reached 80 = .ok (.ireturn, 1) := by decide +kernel
theorem dX1_init_0 : decode cX1_init 0 = .ok (.aload_n 0, 1) := by decide +kernel
theorem dX1_init_1 : decode cX1_init 1 = .ok (.invokespecial 3, 3) := by decide +kernel
theorem dX1_init_4 : decode cX1_init 4 = .ok (.aload_n 0, 1) := by decide +kernel
theorem dX1_init_5 : decode cX1_init 5 = .ok (.new 9, 3) := by decide +kernel
theorem dX1_init_8 : decode cX1_init 8 = .ok (.dup, 1) := by decide +kernel
theorem dX1_init_9 : decode cX1_init 9 = .ok (.invokespecial 11, 3) := by decide +kernel
theorem dX1_init_12 : decode cX1_init 12 = .ok (.putfield 12, 3) := by decide +kernel
theorem dX1_init_15 : decode cX1_init 15 = .ok (.aload_n 0, 1) := by decide +kernel
theorem dX1_init_16 : decode cX1_init 16 = .ok (.new 18, 3) := by decide +kernel
theorem dX1_init_19 : decode cX1_init 19 = .ok (.dup, 1) := by decide +kernel
theorem dX1_init_20 : decode cX1_init 20 = .ok (.invokespecial 20, 3) := by decide +kernel
theorem dX1_init_23 : decode cX1_init 23 = .ok (.putfield 21, 3) := by decide +kernel
theorem dX1_init_26 : decode cX1_init 26 = .ok (.aload_n 0, 1) := by decide +kernel
theorem dX1_init_27 : decode cX1_init 27 = .ok (.iconst 4, 1) := by decide +kernel
theorem dX1_init_28 : decode cX1_init 28 = .ok (.newarray .long, 2) := by decide +kernel
theorem dX1_init_30 : decode cX1_init 30 = .ok (.putfield 25, 3) := by decide +kernel
theorem dX1_init_33 : decode cX1_init 33 = .ok (.aload_n 0, 1) := by decide +kernel
theorem dX1_init_34 : decode cX1_init 34 = .ok (.iconst 4, 1) := by decide +kernel
theorem dX1_init_35 : decode cX1_init 35 = .ok (.newarray .int, 2) := by decide +kernel
theorem dX1_init_37 : decode cX1_init 37 = .ok (.putfield 29, 3) := by decide +kernel
theorem dX1_init_40 : decode cX1_init 40 = .ok (.aload_n 0, 1) := by decide +kernel
theorem dX1_init_41 : decode cX1_init 41 = .ok (.iconst 4, 1) := by decide +kernel
theorem dX1_init_42 : decode cX1_init 42 = .ok (.newarray .int, 2) := by decide +kernel
theorem dX1_init_44 : decode cX1_init 44 = .ok (.putfield 33, 3) := by decide +kernel
theorem dX1_init_47 : decode cX1_init 47 = .ok (.aload_n 0, 1) := by decide +kernel
theorem dX1_init_48 : decode cX1_init 48 = .ok (.iconst 4, 1) := by decide +kernel
theorem dX1_init_49 : decode cX1_init 49 = .ok (.newarray .int, 2) := by decide +kernel
theorem dX1_init_51 : decode cX1_init 51 = .ok (.putfield 36, 3) := by decide +kernel
theorem dX1_init_54 : decode cX1_init 54 = .ok (.aload_n 0, 1) := by decide +kernel
theorem dX1_init_55 : decode cX1_init 55 = .ok (.bipush 12, 2) := by decide +kernel
theorem dX1_init_57 : decode cX1_init 57 = .ok (.newarray .int, 2) := by decide +kernel
theorem dX1_init_59 : decode cX1_init 59 = .ok (.putfield 39, 3) := by decide +kernel
theorem dX1_init_62 : decode cX1_init 62 = .ok (.aload_n 0, 1) := by decide +kernel
theorem dX1_init_63 : decode cX1_init 63 = .ok (.sipush 4095, 3) := by decide +kernel
theorem dX1_init_66 : decode cX1_init 66 = .ok (.putfield 42, 3) := by decide +kernel
theorem dX1_init_69 : decode cX1_init 69 = .ok (.aload_n 0, 1) := by decide +kernel
theorem dX1_init_70 : decode cX1_init 70 = .ok (.bipush 8, 2) := by decide +kernel
theorem dX1_init_72 : decode cX1_init 72 = .ok (.newarray .int, 2) := by decide +kernel
theorem dX1_init_74 : decode cX1_init 74 = .ok (.putfield 46, 3) := by decide +kernel
theorem dX1_init_77 : decode cX1_init 77 = .ok (.aload_n 0, 1) := by decide +kernel
theorem dX1_init_78 : decode cX1_init 78 = .ok (.bipush 10, 2) := by decide +kernel
theorem dX1_init_80 : decode cX1_init 80 = .ok (.newarray .int, 2) := by decide +kernel
theorem dX1_init_82 : decode cX1_init 82 = .ok (.putfield 49, 3) := by decide +kernel
theorem dX1_init_85 : decode cX1_init 85 = .ok (.aload_n 0, 1) := by decide +kernel
theorem dX1_init_86 : decode cX1_init 86 = .ok (.bipush 10, 2) := by decide +kernel
theorem dX1_init_88 : decode cX1_init 88 = .ok (.newarray .int, 2) := by decide +kernel
theorem dX1_init_90 : decode cX1_init 90 = .ok (.putfield 52, 3) := by decide +kernel
theorem dX1_init_93 : decode cX1_init 93 = .ok (.aload_n 0, 1) := by decide +kernel
theorem dX1_init_94 : decode cX1_init 94 = .ok (.bipush 10, 2) := by decide +kernel
theorem dX1_init_96 : decode cX1_init 96 = .ok (.newarray .int, 2) := by decide +kernel
theorem dX1_init_98 : decode cX1_init 98 = .ok (.putfield 55, 3) := by decide +kernel
theorem dX1_init_101 : decode cX1_init 101 = .ok (.aload_n 0, 1) := by decide +kernel
theorem dX1_init_102 : decode cX1_init 102 = .ok (.bipush 10, 2) := by decide +kernel
theorem dX1_init_104 : decode cX1_init 104 = .ok (.newarray .int, 2) := by decide +kernel
theorem dX1_init_106 : decode cX1_init 106 = .ok (.putfield 58, 3) := by decide +kernel
theorem dX1_init_109 : decode cX1_init 109 = .ok (.aload_n 0, 1) := by decide +kernel
theorem dX1_init_110 : decode cX1_init 110 = .ok (.bipush 10, 2) := by decide +kernel
theorem dX1_init_112 : decode cX1_init 112 = .ok (.invokevirtual 61, 3) := by decide +kernel
theorem dX1_init_115 : decode cX1_init 115 = .ok (.return_, 1) := by decide +kernel
theorem dX1_clear_0 : decode cX1_clear 0 = .ok (.aload_n 0, 1) := by decide +kernel
theorem dX1_clear_1 : decode cX1_clear 1 = .ok (.getfield 12, 3) := by decide +kernel
theorem dX1_clear_4 : decode cX1_clear 4 = .ok (.invokevirtual 65, 3) := by decide +kernel
theorem dX1_clear_7 : decode cX1_clear 7 = .ok (.aload_n 0, 1) := by decide +kernel
theorem dX1_clear_8 : decode cX1_clear 8 = .ok (.getfield 21, 3) := by decide +kernel
theorem dX1_clear_11 : decode cX1_clear 11 = .ok (.invokevirtual 68, 3) := by decide +kernel
theorem dX1_clear_14 : decode cX1_clear 14 = .ok (.aload_n 0, 1) := by decide +kernel
theorem dX1_clear_15 : decode cX1_clear 15 = .ok (.iconst 0, 1) := by decide +kernel
theorem dX1_clear_16 : decode cX1_clear 16 = .ok (.putfield 69, 3) := by decide +kernel
theorem dX1_clear_19 : decode cX1_clear 19 = .ok (.aload_n 0, 1) := by decide +kernel
theorem dX1_clear_20 : decode cX1_clear 20 = .ok (.bipush 10, 2) := by decide +kernel
theorem dX1_clear_22 : decode cX1_clear 22 = .ok (.invokevirtual 61, 3) := by decide +kernel
theorem dX1_clear_25 : decode cX1_clear 25 = .ok (.aload_n 0, 1) := by decide +kernel
theorem dX1_clear_26 : decode cX1_clear 26 = .ok (.iconst 0, 1) := by decide +kernel
theorem dX1_clear_27 : decode cX1_clear 27 = .ok (.putfield 72, 3) := by decide +kernel
theorem dX1_clear_30 : decode cX1_clear 30 = .ok (.aload_n 0, 1) := by decide +kernel
theorem dX1_clear_31 : decode cX1_clear 31 = .ok (.sipush 4095, 3) := by decide +kernel
theorem dX1_clear_34 : decode cX1_clear 34 = .ok (.putfield 42, 3) := by decide +kernel
theorem dX1_clear_37 : decode cX1_clear 37 = .ok (.return_, 1) := by decide +kernel
theorem dX1_setAllTides_0 : decode cX1_setAllTides 0 = .ok (.iconst 0, 1) := by decide +kernel
theorem dX1_setAllTides_1 : decode cX1_setAllTides 1 = .ok (.istore_n 2, 1) := by decide +kernel
theorem dX1_setAllTides_2 : decode cX1_setAllTides 2 = .ok (.iload_n 2, 1) := by decide +kernel
theorem dX1_setAllTides_3 : decode cX1_setAllTides 3 = .ok (.bipush 12, 2) := by decide +kernel
theorem dX1_setAllTides_5 : decode cX1_setAllTides 5 = .ok (.if_icmp .ge 16, 3) := by decide +kernel
theorem dX1_setAllTides_8 : decode cX1_setAllTides 8 = .ok (.aload_n 0, 1) := by decide +kernel
theorem dX1_setAllTides_9 : decode cX1_setAllTides 9 = .ok (.getfield 39, 3) := by decide +kernel
theorem dX1_setAllTides_12 : decode cX1_setAllTides 12 = .ok (.iload_n 2, 1) := by decide +kernel
theorem dX1_setAllTides_13 : decode cX1_setAllTides 13 = .ok (.iload_n 1, 1) := by decide +kernel
theorem dX1_setAllTides_14 : decode cX1_setAllTides 14 = .ok (.iastore, 1) := by decide +kernel
theorem dX1_setAllTides_15 : decode cX1_setAllTides 15 = .ok (.iinc 2 1, 3) := by decide +kernel
theorem dX1_setAllTides_18 : decode cX1_setAllTides 18 = .ok (.goto (-16), 3) := by decide +kernel
theorem dX1_setAllTides_21 : decode cX1_setAllTides 21 = .ok (.return_, 1) := by decide +kernel
theorem dX1_addErrand_0 : decode cX1_addErrand 0 = .ok (.aload_n 0, 1) := by decide +kernel
theorem dX1_addErrand_1 : decode cX1_addErrand 1 = .ok (.getfield 69, 3) := by decide +kernel
theorem dX1_addErrand_4 : decode cX1_addErrand 4 = .ok (.iconst 4, 1) := by decide +kernel
theorem dX1_addErrand_5 : decode cX1_addErrand 5 = .ok (.if_icmp .lt 4, 3) := by decide +kernel
theorem dX1_addErrand_8 : decode cX1_addErrand 8 = .ok (.return_, 1) := by decide +kernel
theorem dX1_addErrand_9 : decode cX1_addErrand 9 = .ok (.aload_n 0, 1) := by decide +kernel
theorem dX1_addErrand_10 : decode cX1_addErrand 10 = .ok (.getfield 25, 3) := by decide +kernel
theorem dX1_addErrand_13 : decode cX1_addErrand 13 = .ok (.aload_n 0, 1) := by decide +kernel
theorem dX1_addErrand_14 : decode cX1_addErrand 14 = .ok (.getfield 69, 3) := by decide +kernel
theorem dX1_addErrand_17 : decode cX1_addErrand 17 = .ok (.lload_n 1, 1) := by decide +kernel
theorem dX1_addErrand_18 : decode cX1_addErrand 18 = .ok (.lastore, 1) := by decide +kernel
theorem dX1_addErrand_19 : decode cX1_addErrand 19 = .ok (.aload_n 0, 1) := by decide +kernel
theorem dX1_addErrand_20 : decode cX1_addErrand 20 = .ok (.getfield 29, 3) := by decide +kernel
theorem dX1_addErrand_23 : decode cX1_addErrand 23 = .ok (.aload_n 0, 1) := by decide +kernel
theorem dX1_addErrand_24 : decode cX1_addErrand 24 = .ok (.getfield 69, 3) := by decide +kernel
theorem dX1_addErrand_27 : decode cX1_addErrand 27 = .ok (.iload_n 3, 1) := by decide +kernel
theorem dX1_addErrand_28 : decode cX1_addErrand 28 = .ok (.iastore, 1) := by decide +kernel
theorem dX1_addErrand_29 : decode cX1_addErrand 29 = .ok (.aload_n 0, 1) := by decide +kernel
theorem dX1_addErrand_30 : decode cX1_addErrand 30 = .ok (.getfield 33, 3) := by decide +kernel
theorem dX1_addErrand_33 : decode cX1_addErrand 33 = .ok (.aload_n 0, 1) := by decide +kernel
theorem dX1_addErrand_34 : decode cX1_addErrand 34 = .ok (.getfield 69, 3) := by decide +kernel
theorem dX1_addErrand_37 : decode cX1_addErrand 37 = .ok (.iload 4, 2) := by decide +kernel
theorem dX1_addErrand_39 : decode cX1_addErrand 39 = .ok (.iastore, 1) := by decide +kernel
theorem dX1_addErrand_40 : decode cX1_addErrand 40 = .ok (.aload_n 0, 1) := by decide +kernel
theorem dX1_addErrand_41 : decode cX1_addErrand 41 = .ok (.getfield 36, 3) := by decide +kernel
theorem dX1_addErrand_44 : decode cX1_addErrand 44 = .ok (.aload_n 0, 1) := by decide +kernel
theorem dX1_addErrand_45 : decode cX1_addErrand 45 = .ok (.getfield 69, 3) := by decide +kernel
theorem dX1_addErrand_48 : decode cX1_addErrand 48 = .ok (.iload 5, 2) := by decide +kernel
theorem dX1_addErrand_50 : decode cX1_addErrand 50 = .ok (.iastore, 1) := by decide +kernel
theorem dX1_addErrand_51 : decode cX1_addErrand 51 = .ok (.aload_n 0, 1) := by decide +kernel
theorem dX1_addErrand_52 : decode cX1_addErrand 52 = .ok (.dup, 1) := by decide +kernel
theorem dX1_addErrand_53 : decode cX1_addErrand 53 = .ok (.getfield 69, 3) := by decide +kernel
theorem dX1_addErrand_56 : decode cX1_addErrand 56 = .ok (.iconst 1, 1) := by decide +kernel
theorem dX1_addErrand_57 : decode cX1_addErrand 57 = .ok (.iadd, 1) := by decide +kernel
theorem dX1_addErrand_58 : decode cX1_addErrand 58 = .ok (.putfield 69, 3) := by decide +kernel
theorem dX1_addErrand_61 : decode cX1_addErrand 61 = .ok (.return_, 1) := by decide +kernel
theorem dX1_copyFrom_0 : decode cX1_copyFrom 0 = .ok (.aload_n 0, 1) := by decide +kernel
theorem dX1_copyFrom_1 : decode cX1_copyFrom 1 = .ok (.getfield 12, 3) := by decide +kernel
theorem dX1_copyFrom_4 : decode cX1_copyFrom 4 = .ok (.aload_n 1, 1) := by decide +kernel
theorem dX1_copyFrom_5 : decode cX1_copyFrom 5 = .ok (.getfield 12, 3) := by decide +kernel
theorem dX1_copyFrom_8 : decode cX1_copyFrom 8 = .ok (.invokevirtual 75, 3) := by decide +kernel
theorem dX1_copyFrom_11 : decode cX1_copyFrom 11 = .ok (.aload_n 0, 1) := by decide +kernel
theorem dX1_copyFrom_12 : decode cX1_copyFrom 12 = .ok (.getfield 21, 3) := by decide +kernel
theorem dX1_copyFrom_15 : decode cX1_copyFrom 15 = .ok (.aload_n 1, 1) := by decide +kernel
theorem dX1_copyFrom_16 : decode cX1_copyFrom 16 = .ok (.getfield 21, 3) := by decide +kernel
theorem dX1_copyFrom_19 : decode cX1_copyFrom 19 = .ok (.invokevirtual 79, 3) := by decide +kernel
theorem dX1_copyFrom_22 : decode cX1_copyFrom 22 = .ok (.aload_n 0, 1) := by decide +kernel
theorem dX1_copyFrom_23 : decode cX1_copyFrom 23 = .ok (.aload_n 1, 1) := by decide +kernel
theorem dX1_copyFrom_24 : decode cX1_copyFrom 24 = .ok (.getfield 69, 3) := by decide +kernel
theorem dX1_copyFrom_27 : decode cX1_copyFrom 27 = .ok (.putfield 69, 3) := by decide +kernel
theorem dX1_copyFrom_30 : decode cX1_copyFrom 30 = .ok (.aload_n 1, 1) := by decide +kernel
theorem dX1_copyFrom_31 : decode cX1_copyFrom 31 = .ok (.getfield 25, 3) := by decide +kernel
theorem dX1_copyFrom_34 : decode cX1_copyFrom 34 = .ok (.iconst 0, 1) := by decide +kernel
theorem dX1_copyFrom_35 : decode cX1_copyFrom 35 = .ok (.aload_n 0, 1) := by decide +kernel
theorem dX1_copyFrom_36 : decode cX1_copyFrom 36 = .ok (.getfield 25, 3) := by decide +kernel
theorem dX1_copyFrom_39 : decode cX1_copyFrom 39 = .ok (.iconst 0, 1) := by decide +kernel
theorem dX1_copyFrom_40 : decode cX1_copyFrom 40 = .ok (.iconst 4, 1) := by decide +kernel
theorem dX1_copyFrom_41 : decode cX1_copyFrom 41 = .ok (.invokestatic 82, 3) := by decide +kernel
theorem dX1_copyFrom_44 : decode cX1_copyFrom 44 = .ok (.aload_n 1, 1) := by decide +kernel
theorem dX1_copyFrom_45 : decode cX1_copyFrom 45 = .ok (.getfield 29, 3) := by decide +kernel
theorem dX1_copyFrom_48 : decode cX1_copyFrom 48 = .ok (.iconst 0, 1) := by decide +kernel
theorem dX1_copyFrom_49 : decode cX1_copyFrom 49 = .ok (.aload_n 0, 1) := by decide +kernel
theorem dX1_copyFrom_50 : decode cX1_copyFrom 50 = .ok (.getfield 29, 3) := by decide +kernel
theorem dX1_copyFrom_53 : decode cX1_copyFrom 53 = .ok (.iconst 0, 1) := by decide +kernel
theorem dX1_copyFrom_54 : decode cX1_copyFrom 54 = .ok (.iconst 4, 1) := by decide +kernel
theorem dX1_copyFrom_55 : decode cX1_copyFrom 55 = .ok (.invokestatic 82, 3) := by decide +kernel
theorem dX1_copyFrom_58 : decode cX1_copyFrom 58 = .ok (.aload_n 1, 1) := by decide +kernel
theorem dX1_copyFrom_59 : decode cX1_copyFrom 59 = .ok (.getfield 33, 3) := by decide +kernel
theorem dX1_copyFrom_62 : decode cX1_copyFrom 62 = .ok (.iconst 0, 1) := by decide +kernel
theorem dX1_copyFrom_63 : decode cX1_copyFrom 63 = .ok (.aload_n 0, 1) := by decide +kernel
theorem dX1_copyFrom_64 : decode cX1_copyFrom 64 = .ok (.getfield 33, 3) := by decide +kernel
theorem dX1_copyFrom_67 : decode cX1_copyFrom 67 = .ok (.iconst 0, 1) := by decide +kernel
theorem dX1_copyFrom_68 : decode cX1_copyFrom 68 = .ok (.iconst 4, 1) := by decide +kernel
theorem dX1_copyFrom_69 : decode cX1_copyFrom 69 = .ok (.invokestatic 82, 3) := by decide +kernel
theorem dX1_copyFrom_72 : decode cX1_copyFrom 72 = .ok (.aload_n 1, 1) := by decide +kernel
theorem dX1_copyFrom_73 : decode cX1_copyFrom 73 = .ok (.getfield 36, 3) := by decide +kernel
theorem dX1_copyFrom_76 : decode cX1_copyFrom 76 = .ok (.iconst 0, 1) := by decide +kernel
theorem dX1_copyFrom_77 : decode cX1_copyFrom 77 = .ok (.aload_n 0, 1) := by decide +kernel
theorem dX1_copyFrom_78 : decode cX1_copyFrom 78 = .ok (.getfield 36, 3) := by decide +kernel
theorem dX1_copyFrom_81 : decode cX1_copyFrom 81 = .ok (.iconst 0, 1) := by decide +kernel
theorem dX1_copyFrom_82 : decode cX1_copyFrom 82 = .ok (.iconst 4, 1) := by decide +kernel
theorem dX1_copyFrom_83 : decode cX1_copyFrom 83 = .ok (.invokestatic 82, 3) := by decide +kernel
theorem dX1_copyFrom_86 : decode cX1_copyFrom 86 = .ok (.aload_n 1, 1) := by decide +kernel
theorem dX1_copyFrom_87 : decode cX1_copyFrom 87 = .ok (.getfield 39, 3) := by decide +kernel
theorem dX1_copyFrom_90 : decode cX1_copyFrom 90 = .ok (.iconst 0, 1) := by decide +kernel
theorem dX1_copyFrom_91 : decode cX1_copyFrom 91 = .ok (.aload_n 0, 1) := by decide +kernel
theorem dX1_copyFrom_92 : decode cX1_copyFrom 92 = .ok (.getfield 39, 3) := by decide +kernel
theorem dX1_copyFrom_95 : decode cX1_copyFrom 95 = .ok (.iconst 0, 1) := by decide +kernel
theorem dX1_copyFrom_96 : decode cX1_copyFrom 96 = .ok (.bipush 12, 2) := by decide +kernel
theorem dX1_copyFrom_98 : decode cX1_copyFrom 98 = .ok (.invokestatic 82, 3) := by decide +kernel
theorem dX1_copyFrom_101 : decode cX1_copyFrom 101 = .ok (.aload_n 0, 1) := by decide +kernel
theorem dX1_copyFrom_102 : decode cX1_copyFrom 102 = .ok (.aload_n 1, 1) := by decide +kernel
theorem dX1_copyFrom_103 : decode cX1_copyFrom 103 = .ok (.getfield 72, 3) := by decide +kernel
theorem dX1_copyFrom_106 : decode cX1_copyFrom 106 = .ok (.putfield 72, 3) := by decide +kernel
theorem dX1_copyFrom_109 : decode cX1_copyFrom 109 = .ok (.aload_n 0, 1) := by decide +kernel
theorem dX1_copyFrom_110 : decode cX1_copyFrom 110 = .ok (.aload_n 1, 1) := by decide +kernel
theorem dX1_copyFrom_111 : decode cX1_copyFrom 111 = .ok (.getfield 42, 3) := by decide +kernel
theorem dX1_copyFrom_114 : decode cX1_copyFrom 114 = .ok (.putfield 42, 3) := by decide +kernel
theorem dX1_copyFrom_117 : decode cX1_copyFrom 117 = .ok (.return_, 1) := by decide +kernel
theorem dX1_copyWaterFrom_0 : decode cX1_copyWaterFrom 0 = .ok (.aload_n 0, 1) := by decide +kernel
theorem dX1_copyWaterFrom_1 : decode cX1_copyWaterFrom 1 = .ok (.aload_n 1, 1) := by decide +kernel
theorem dX1_copyWaterFrom_2 : decode cX1_copyWaterFrom 2 = .ok (.getfield 72, 3) := by decide +kernel
theorem dX1_copyWaterFrom_5 : decode cX1_copyWaterFrom 5 = .ok (.putfield 72, 3) := by decide +kernel
theorem dX1_copyWaterFrom_8 : decode cX1_copyWaterFrom 8 = .ok (.aload_n 0, 1) := by decide +kernel
theorem dX1_copyWaterFrom_9 : decode cX1_copyWaterFrom 9 = .ok (.getfield 12, 3) := by decide +kernel
theorem dX1_copyWaterFrom_12 : decode cX1_copyWaterFrom 12 = .ok (.aload_n 1, 1) := by decide +kernel
theorem dX1_copyWaterFrom_13 : decode cX1_copyWaterFrom 13 = .ok (.getfield 12, 3) := by decide +kernel
theorem dX1_copyWaterFrom_16 : decode cX1_copyWaterFrom 16 = .ok (.getfield 88, 3) := by decide +kernel
theorem dX1_copyWaterFrom_19 : decode cX1_copyWaterFrom 19 = .ok (.putfield 88, 3) := by decide +kernel
theorem dX1_copyWaterFrom_22 : decode cX1_copyWaterFrom 22 = .ok (.aload_n 1, 1) := by decide +kernel
theorem dX1_copyWaterFrom_23 : decode cX1_copyWaterFrom 23 = .ok (.getfield 12, 3) := by decide +kernel
theorem dX1_copyWaterFrom_26 : decode cX1_copyWaterFrom 26 = .ok (.getfield 91, 3) := by decide +kernel
theorem dX1_copyWaterFrom_29 : decode cX1_copyWaterFrom 29 = .ok (.iconst 0, 1) := by decide +kernel
theorem dX1_copyWaterFrom_30 : decode cX1_copyWaterFrom 30 = .ok (.aload_n 0, 1) := by decide +kernel
theorem dX1_copyWaterFrom_31 : decode cX1_copyWaterFrom 31 = .ok (.getfield 12, 3) := by decide +kernel
theorem dX1_copyWaterFrom_34 : decode cX1_copyWaterFrom 34 = .ok (.getfield 91, 3) := by decide +kernel
theorem dX1_copyWaterFrom_37 : decode cX1_copyWaterFrom 37 = .ok (.iconst 0, 1) := by decide +kernel
theorem dX1_copyWaterFrom_38 : decode cX1_copyWaterFrom 38 = .ok (.bipush 7, 2) := by decide +kernel
theorem dX1_copyWaterFrom_40 : decode cX1_copyWaterFrom 40 = .ok (.invokestatic 82, 3) := by decide +kernel
theorem dX1_copyWaterFrom_43 : decode cX1_copyWaterFrom 43 = .ok (.aload_n 1, 1) := by decide +kernel
theorem dX1_copyWaterFrom_44 : decode cX1_copyWaterFrom 44 = .ok (.getfield 12, 3) := by decide +kernel
theorem dX1_copyWaterFrom_47 : decode cX1_copyWaterFrom 47 = .ok (.getfield 94, 3) := by decide +kernel
theorem dX1_copyWaterFrom_50 : decode cX1_copyWaterFrom 50 = .ok (.iconst 0, 1) := by decide +kernel
theorem dX1_copyWaterFrom_51 : decode cX1_copyWaterFrom 51 = .ok (.aload_n 0, 1) := by decide +kernel
theorem dX1_copyWaterFrom_52 : decode cX1_copyWaterFrom 52 = .ok (.getfield 12, 3) := by decide +kernel
theorem dX1_copyWaterFrom_55 : decode cX1_copyWaterFrom 55 = .ok (.getfield 94, 3) := by decide +kernel
theorem dX1_copyWaterFrom_58 : decode cX1_copyWaterFrom 58 = .ok (.iconst 0, 1) := by decide +kernel
theorem dX1_copyWaterFrom_59 : decode cX1_copyWaterFrom 59 = .ok (.bipush 7, 2) := by decide +kernel
theorem dX1_copyWaterFrom_61 : decode cX1_copyWaterFrom 61 = .ok (.invokestatic 82, 3) := by decide +kernel
theorem dX1_copyWaterFrom_64 : decode cX1_copyWaterFrom 64 = .ok (.return_, 1) := by decide +kernel
theorem dX1_isNameTaken_0 : decode cX1_isNameTaken 0 = .ok (.aload_n 0, 1) := by decide +kernel
theorem dX1_isNameTaken_1 : decode cX1_isNameTaken 1 = .ok (.getfield 12, 3) := by decide +kernel
theorem dX1_isNameTaken_4 : decode cX1_isNameTaken 4 = .ok (.lload_n 1, 1) := by decide +kernel
theorem dX1_isNameTaken_5 : decode cX1_isNameTaken 5 = .ok (.invokevirtual 97, 3) := by decide +kernel
theorem dX1_isNameTaken_8 : decode cX1_isNameTaken 8 = .ok (.iconst (-1), 1) := by decide +kernel
theorem dX1_isNameTaken_9 : decode cX1_isNameTaken 9 = .ok (.if_icmp .ne 31, 3) := by decide +kernel
theorem dX1_isNameTaken_12 : decode cX1_isNameTaken 12 = .ok (.aload_n 0, 1) := by decide +kernel
theorem dX1_isNameTaken_13 : decode cX1_isNameTaken 13 = .ok (.getfield 21, 3) := by decide +kernel
theorem dX1_isNameTaken_16 : decode cX1_isNameTaken 16 = .ok (.lload_n 1, 1) := by decide +kernel
theorem dX1_isNameTaken_17 : decode cX1_isNameTaken 17 = .ok (.invokevirtual 101, 3) := by decide +kernel
theorem dX1_isNameTaken_20 : decode cX1_isNameTaken 20 = .ok (.iconst (-1), 1) := by decide +kernel
theorem dX1_isNameTaken_21 : decode cX1_isNameTaken 21 = .ok (.if_icmp .ne 19, 3) := by decide +kernel
theorem dX1_isNameTaken_24 : decode cX1_isNameTaken 24 = .ok (.aload_n 0, 1) := by decide +kernel
theorem dX1_isNameTaken_25 : decode cX1_isNameTaken 25 = .ok (.getfield 25, 3) := by decide +kernel
theorem dX1_isNameTaken_28 : decode cX1_isNameTaken 28 = .ok (.aload_n 0, 1) := by decide +kernel
theorem dX1_isNameTaken_29 : decode cX1_isNameTaken 29 = .ok (.getfield 69, 3) := by decide +kernel
theorem dX1_isNameTaken_32 : decode cX1_isNameTaken 32 = .ok (.lload_n 1, 1) := by decide +kernel
theorem dX1_isNameTaken_33 : decode cX1_isNameTaken 33 = .ok (.invokestatic 102, 3) := by decide +kernel
theorem dX1_isNameTaken_36 : decode cX1_isNameTaken 36 = .ok (.iconst (-1), 1) := by decide +kernel
theorem dX1_isNameTaken_37 : decode cX1_isNameTaken 37 = .ok (.if_icmp .eq 7, 3) := by decide +kernel
theorem dX1_isNameTaken_40 : decode cX1_isNameTaken 40 = .ok (.iconst 1, 1) := by decide +kernel
theorem dX1_isNameTaken_41 : decode cX1_isNameTaken 41 = .ok (.goto 4, 3) := by decide +kernel
theorem dX1_isNameTaken_44 : decode cX1_isNameTaken 44 = .ok (.iconst 0, 1) := by decide +kernel
theorem dX1_isNameTaken_45 : decode cX1_isNameTaken 45 = .ok (.ireturn, 1) := by decide +kernel
theorem dX1_hourOfDay_0 : decode cX1_hourOfDay 0 = .ok (.aload_n 0, 1) := by decide +kernel
theorem dX1_hourOfDay_1 : decode cX1_hourOfDay 1 = .ok (.getfield 72, 3) := by decide +kernel
theorem dX1_hourOfDay_4 : decode cX1_hourOfDay 4 = .ok (.bipush 12, 2) := by decide +kernel
theorem dX1_hourOfDay_6 : decode cX1_hourOfDay 6 = .ok (.irem, 1) := by decide +kernel
theorem dX1_hourOfDay_7 : decode cX1_hourOfDay 7 = .ok (.ireturn, 1) := by decide +kernel
theorem dX1_openNow_0 : decode cX1_openNow 0 = .ok (.aload_n 0, 1) := by decide +kernel
theorem dX1_openNow_1 : decode cX1_openNow 1 = .ok (.getfield 21, 3) := by decide +kernel
theorem dX1_openNow_4 : decode cX1_openNow 4 = .ok (.getfield 106, 3) := by decide +kernel
theorem dX1_openNow_7 : decode cX1_openNow 7 = .ok (.aload_n 0, 1) := by decide +kernel
theorem dX1_openNow_8 : decode cX1_openNow 8 = .ok (.getfield 21, 3) := by decide +kernel
theorem dX1_openNow_11 : decode cX1_openNow 11 = .ok (.getfield 109, 3) := by decide +kernel
theorem dX1_openNow_14 : decode cX1_openNow 14 = .ok (.aload_n 0, 1) := by decide +kernel
theorem dX1_openNow_15 : decode cX1_openNow 15 = .ok (.getfield 72, 3) := by decide +kernel
theorem dX1_openNow_18 : decode cX1_openNow 18 = .ok (.bipush 12, 2) := by decide +kernel
theorem dX1_openNow_20 : decode cX1_openNow 20 = .ok (.irem, 1) := by decide +kernel
theorem dX1_openNow_21 : decode cX1_openNow 21 = .ok (.iaload, 1) := by decide +kernel
theorem dX1_openNow_22 : decode cX1_openNow 22 = .ok (.ior, 1) := by decide +kernel
theorem dX1_openNow_23 : decode cX1_openNow 23 = .ok (.aload_n 0, 1) := by decide +kernel
theorem dX1_openNow_24 : decode cX1_openNow 24 = .ok (.getfield 21, 3) := by decide +kernel
theorem dX1_openNow_27 : decode cX1_openNow 27 = .ok (.getfield 112, 3) := by decide +kernel
theorem dX1_openNow_30 : decode cX1_openNow 30 = .ok (.iconst (-1), 1) := by decide +kernel
theorem dX1_openNow_31 : decode cX1_openNow 31 = .ok (.ixor, 1) := by decide +kernel
theorem dX1_openNow_32 : decode cX1_openNow 32 = .ok (.iand, 1) := by decide +kernel
theorem dX1_openNow_33 : decode cX1_openNow 33 = .ok (.ireturn, 1) := by decide +kernel
theorem dX1_findSurfaces_0 : decode cX1_findSurfaces 0 = .ok (.iconst 0, 1) := by decide +kernel
theorem dX1_findSurfaces_1 : decode cX1_findSurfaces 1 = .ok (.istore_n 1, 1) := by decide +kernel
theorem dX1_findSurfaces_2 : decode cX1_findSurfaces 2 = .ok (.iload_n 1, 1) := by decide +kernel
theorem dX1_findSurfaces_3 : decode cX1_findSurfaces 3 = .ok (.aload_n 0, 1) := by decide +kernel
theorem dX1_findSurfaces_4 : decode cX1_findSurfaces 4 = .ok (.getfield 12, 3) := by decide +kernel
theorem dX1_findSurfaces_7 : decode cX1_findSurfaces 7 = .ok (.getfield 115, 3) := by decide +kernel
theorem dX1_findSurfaces_10 : decode cX1_findSurfaces 10 = .ok (.if_icmp .ge 33, 3) := by decide +kernel
theorem dX1_findSurfaces_13 : decode cX1_findSurfaces 13 = .ok (.aload_n 0, 1) := by decide +kernel
theorem dX1_findSurfaces_14 : decode cX1_findSurfaces 14 = .ok (.getfield 46, 3) := by decide +kernel
theorem dX1_findSurfaces_17 : decode cX1_findSurfaces 17 = .ok (.iload_n 1, 1) := by decide +kernel
theorem dX1_findSurfaces_18 : decode cX1_findSurfaces 18 = .ok (.aload_n 0, 1) := by decide +kernel
theorem dX1_findSurfaces_19 : decode cX1_findSurfaces 19 = .ok (.getfield 12, 3) := by decide +kernel
theorem dX1_findSurfaces_22 : decode cX1_findSurfaces 22 = .ok (.getfield 118, 3) := by decide +kernel
theorem dX1_findSurfaces_25 : decode cX1_findSurfaces 25 = .ok (.iload_n 1, 1) := by decide +kernel
theorem dX1_findSurfaces_26 : decode cX1_findSurfaces 26 = .ok (.iaload, 1) := by decide +kernel
theorem dX1_findSurfaces_27 : decode cX1_findSurfaces 27 = .ok (.aload_n 0, 1) := by decide +kernel
theorem dX1_findSurfaces_28 : decode cX1_findSurfaces 28 = .ok (.getfield 12, 3) := by decide +kernel
theorem dX1_findSurfaces_31 : decode cX1_findSurfaces 31 = .ok (.iload_n 1, 1) := by decide +kernel
theorem dX1_findSurfaces_32 : decode cX1_findSurfaces 32 = .ok (.invokevirtual 121, 3) := by decide +kernel
theorem dX1_findSurfaces_35 : decode cX1_findSurfaces 35 = .ok (.iadd, 1) := by decide +kernel
theorem dX1_findSurfaces_36 : decode cX1_findSurfaces 36 = .ok (.iastore, 1) := by decide +kernel
theorem dX1_findSurfaces_37 : decode cX1_findSurfaces 37 = .ok (.iinc 1 1, 3) := by decide +kernel
theorem dX1_findSurfaces_40 : decode cX1_findSurfaces 40 = .ok (.goto (-38), 3) := by decide +kernel
theorem dX1_findSurfaces_43 : decode cX1_findSurfaces 43 = .ok (.aload_n 0, 1) := by decide +kernel
theorem dX1_findSurfaces_44 : decode cX1_findSurfaces 44 = .ok (.getfield 46, 3) := by decide +kernel
theorem dX1_findSurfaces_47 : decode cX1_findSurfaces 47 = .ok (.bipush 7, 2) := by decide +kernel
theorem dX1_findSurfaces_49 : decode cX1_findSurfaces 49 = .ok (.aload_n 0, 1) := by decide +kernel
theorem dX1_findSurfaces_50 : decode cX1_findSurfaces 50 = .ok (.getfield 39, 3) := by decide +kernel
theorem dX1_findSurfaces_53 : decode cX1_findSurfaces 53 = .ok (.aload_n 0, 1) := by decide +kernel
theorem dX1_findSurfaces_54 : decode cX1_findSurfaces 54 = .ok (.getfield 72, 3) := by decide +kernel
theorem dX1_findSurfaces_57 : decode cX1_findSurfaces 57 = .ok (.bipush 12, 2) := by decide +kernel
theorem dX1_findSurfaces_59 : decode cX1_findSurfaces 59 = .ok (.irem, 1) := by decide +kernel
theorem dX1_findSurfaces_60 : decode cX1_findSurfaces 60 = .ok (.iaload, 1) := by decide +kernel
theorem dX1_findSurfaces_61 : decode cX1_findSurfaces 61 = .ok (.iastore, 1) := by decide +kernel
theorem dX1_findSurfaces_62 : decode cX1_findSurfaces 62 = .ok (.return_, 1) := by decide +kernel
theorem dX1_findFlows_0 : decode cX1_findFlows 0 = .ok (.aload_n 0, 1) := by decide +kernel
theorem dX1_findFlows_1 : decode cX1_findFlows 1 = .ok (.invokevirtual 125, 3) := by decide +kernel
theorem dX1_findFlows_4 : decode cX1_findFlows 4 = .ok (.istore_n 1, 1) := by decide +kernel
theorem dX1_findFlows_5 : decode cX1_findFlows 5 = .ok (.iconst 0, 1) := by decide +kernel
theorem dX1_findFlows_6 : decode cX1_findFlows 6 = .ok (.istore_n 2, 1) := by decide +kernel
theorem dX1_findFlows_7 : decode cX1_findFlows 7 = .ok (.iload_n 2, 1) := by decide +kernel
theorem dX1_findFlows_8 : decode cX1_findFlows 8 = .ok (.aload_n 0, 1) := by decide +kernel
theorem dX1_findFlows_9 : decode cX1_findFlows 9 = .ok (.getfield 21, 3) := by decide +kernel
theorem dX1_findFlows_12 : decode cX1_findFlows 12 = .ok (.getfield 129, 3) := by decide +kernel
theorem dX1_findFlows_15 : decode cX1_findFlows 15 = .ok (.if_icmp .ge 195, 3) := by decide +kernel
theorem dX1_findFlows_18 : decode cX1_findFlows 18 = .ok (.aload_n 0, 1) := by decide +kernel
theorem dX1_findFlows_19 : decode cX1_findFlows 19 = .ok (.aload_n 0, 1) := by decide +kernel
theorem dX1_findFlows_20 : decode cX1_findFlows 20 = .ok (.getfield 21, 3) := by decide +kernel
theorem dX1_findFlows_23 : decode cX1_findFlows 23 = .ok (.getfield 130, 3) := by decide +kernel
theorem dX1_findFlows_26 : decode cX1_findFlows 26 = .ok (.iload_n 2, 1) := by decide +kernel
theorem dX1_findFlows_27 : decode cX1_findFlows 27 = .ok (.iaload, 1) := by decide +kernel
theorem dX1_findFlows_28 : decode cX1_findFlows 28 = .ok (.invokevirtual 133, 3) := by decide +kernel
theorem dX1_findFlows_31 : decode cX1_findFlows 31 = .ok (.istore_n 3, 1) := by decide +kernel
theorem dX1_findFlows_32 : decode cX1_findFlows 32 = .ok (.aload_n 0, 1) := by decide +kernel
theorem dX1_findFlows_33 : decode cX1_findFlows 33 = .ok (.aload_n 0, 1) := by decide +kernel
theorem dX1_findFlows_34 : decode cX1_findFlows 34 = .ok (.getfield 21, 3) := by decide +kernel
theorem dX1_findFlows_37 : decode cX1_findFlows 37 = .ok (.getfield 136, 3) := by decide +kernel
theorem dX1_findFlows_40 : decode cX1_findFlows 40 = .ok (.iload_n 2, 1) := by decide +kernel
theorem dX1_findFlows_41 : decode cX1_findFlows 41 = .ok (.iaload, 1) := by decide +kernel
theorem dX1_findFlows_42 : decode cX1_findFlows 42 = .ok (.invokevirtual 133, 3) := by decide +kernel
theorem dX1_findFlows_45 : decode cX1_findFlows 45 = .ok (.istore 4, 2) := by decide +kernel
theorem dX1_findFlows_47 : decode cX1_findFlows 47 = .ok (.iload_n 3, 1) := by decide +kernel
theorem dX1_findFlows_48 : decode cX1_findFlows 48 = .ok (.iload 4, 2) := by decide +kernel
theorem dX1_findFlows_50 : decode cX1_findFlows 50 = .ok (.invokestatic 139, 3) := by decide +kernel
theorem dX1_findFlows_53 : decode cX1_findFlows 53 = .ok (.istore 5, 2) := by decide +kernel
theorem dX1_findFlows_55 : decode cX1_findFlows 55 = .ok (.iload 5, 2) := by decide +kernel
theorem dX1_findFlows_57 : decode cX1_findFlows 57 = .ok (.aload_n 0, 1) := by decide +kernel
theorem dX1_findFlows_58 : decode cX1_findFlows 58 = .ok (.getfield 21, 3) := by decide +kernel
theorem dX1_findFlows_61 : decode cX1_findFlows 61 = .ok (.getfield 145, 3) := by decide +kernel
theorem dX1_findFlows_64 : decode cX1_findFlows 64 = .ok (.iload_n 2, 1) := by decide +kernel
theorem dX1_findFlows_65 : decode cX1_findFlows 65 = .ok (.iaload, 1) := by decide +kernel
theorem dX1_findFlows_66 : decode cX1_findFlows 66 = .ok (.isub, 1) := by decide +kernel
theorem dX1_findFlows_67 : decode cX1_findFlows 67 = .ok (.iload 5, 2) := by decide +kernel
theorem dX1_findFlows_69 : decode cX1_findFlows 69 = .ok (.iload_n 3, 1) := by decide +kernel
theorem dX1_findFlows_70 : decode cX1_findFlows 70 = .ok (.iload 4, 2) := by decide +kernel
theorem dX1_findFlows_72 : decode cX1_findFlows 72 = .ok (.invokestatic 148, 3) := by decide +kernel
theorem dX1_findFlows_75 : decode cX1_findFlows 75 = .ok (.isub, 1) := by decide +kernel
theorem dX1_findFlows_76 : decode cX1_findFlows 76 = .ok (.invokestatic 148, 3) := by decide +kernel
theorem dX1_findFlows_79 : decode cX1_findFlows 79 = .ok (.istore 6, 2) := by decide +kernel
theorem dX1_findFlows_81 : decode cX1_findFlows 81 = .ok (.aload_n 0, 1) := by decide +kernel
theorem dX1_findFlows_82 : decode cX1_findFlows 82 = .ok (.getfield 49, 3) := by decide +kernel
theorem dX1_findFlows_85 : decode cX1_findFlows 85 = .ok (.iload_n 2, 1) := by decide +kernel
theorem dX1_findFlows_86 : decode cX1_findFlows 86 = .ok (.iconst 0, 1) := by decide +kernel
theorem dX1_findFlows_87 : decode cX1_findFlows 87 = .ok (.iload 6, 2) := by decide +kernel
theorem dX1_findFlows_89 : decode cX1_findFlows 89 = .ok (.invokestatic 139, 3) := by decide +kernel
theorem dX1_findFlows_92 : decode cX1_findFlows 92 = .ok (.iastore, 1) := by decide +kernel
theorem dX1_findFlows_93 : decode cX1_findFlows 93 = .ok (.aload_n 0, 1) := by decide +kernel
theorem dX1_findFlows_94 : decode cX1_findFlows 94 = .ok (.getfield 49, 3) := by decide +kernel
theorem dX1_findFlows_97 : decode cX1_findFlows 97 = .ok (.iload_n 2, 1) := by decide +kernel
theorem dX1_findFlows_98 : decode cX1_findFlows 98 = .ok (.iaload, 1) := by decide +kernel
theorem dX1_findFlows_99 : decode cX1_findFlows 99 = .ok (.aload_n 0, 1) := by decide +kernel
theorem dX1_findFlows_100 : decode cX1_findFlows 100 = .ok (.getfield 21, 3) := by decide +kernel
theorem dX1_findFlows_103 : decode cX1_findFlows 103 = .ok (.getfield 151, 3) := by decide +kernel
theorem dX1_findFlows_106 : decode cX1_findFlows 106 = .ok (.iload_n 2, 1) := by decide +kernel
theorem dX1_findFlows_107 : decode cX1_findFlows 107 = .ok (.iaload, 1) := by decide +kernel
theorem dX1_findFlows_108 : decode cX1_findFlows 108 = .ok (.imul, 1) := by decide +kernel
theorem dX1_findFlows_109 : decode cX1_findFlows 109 = .ok (.istore 7, 2) := by decide +kernel
theorem dX1_findFlows_111 : decode cX1_findFlows 111 = .ok (.iload 7, 2) := by decide +kernel
theorem dX1_findFlows_113 : decode cX1_findFlows 113 = .ok (.aload_n 0, 1) := by decide +kernel
theorem dX1_findFlows_114 : decode cX1_findFlows 114 = .ok (.getfield 21, 3) := by decide +kernel
theorem dX1_findFlows_117 : decode cX1_findFlows 117 = .ok (.getfield 154, 3) := by decide +kernel
theorem dX1_findFlows_120 : decode cX1_findFlows 120 = .ok (.iload_n 2, 1) := by decide +kernel
theorem dX1_findFlows_121 : decode cX1_findFlows 121 = .ok (.iaload, 1) := by decide +kernel
theorem dX1_findFlows_122 : decode cX1_findFlows 122 = .ok (.invokestatic 148, 3) := by decide +kernel
theorem dX1_findFlows_125 : decode cX1_findFlows 125 = .ok (.istore 8, 2) := by decide +kernel
theorem dX1_findFlows_127 : decode cX1_findFlows 127 = .ok (.aload_n 0, 1) := by decide +kernel
theorem dX1_findFlows_128 : decode cX1_findFlows 128 = .ok (.getfield 21, 3) := by decide +kernel
theorem dX1_findFlows_131 : decode cX1_findFlows 131 = .ok (.iload_n 2, 1) := by decide +kernel
theorem dX1_findFlows_132 : decode cX1_findFlows 132 = .ok (.invokevirtual 157, 3) := by decide +kernel
theorem dX1_findFlows_135 : decode cX1_findFlows 135 = .ok (.ifCond .eq 7, 3) := by decide +kernel
theorem dX1_findFlows_138 : decode cX1_findFlows 138 = .ok (.iconst 0, 1) := by decide +kernel
theorem dX1_findFlows_139 : decode cX1_findFlows 139 = .ok (.goto 5, 3) := by decide +kernel
theorem dX1_findFlows_142 : decode cX1_findFlows 142 = .ok (.iload 8, 2) := by decide +kernel
theorem dX1_findFlows_144 : decode cX1_findFlows 144 = .ok (.istore 9, 2) := by decide +kernel
theorem dX1_findFlows_146 : decode cX1_findFlows 146 = .ok (.iload_n 1, 1) := by decide +kernel
theorem dX1_findFlows_147 : decode cX1_findFlows 147 = .ok (.iload_n 2, 1) := by decide +kernel
theorem dX1_findFlows_148 : decode cX1_findFlows 148 = .ok (.ishr, 1) := by decide +kernel
theorem dX1_findFlows_149 : decode cX1_findFlows 149 = .ok (.iconst 1, 1) := by decide +kernel
theorem dX1_findFlows_150 : decode cX1_findFlows 150 = .ok (.iand, 1) := by decide +kernel
theorem dX1_findFlows_151 : decode cX1_findFlows 151 = .ok (.iconst 1, 1) := by decide +kernel
theorem dX1_findFlows_152 : decode cX1_findFlows 152 = .ok (.if_icmp .ne 8, 3) := by decide +kernel
theorem dX1_findFlows_155 : decode cX1_findFlows 155 = .ok (.iload 7, 2) := by decide +kernel
theorem dX1_findFlows_157 : decode cX1_findFlows 157 = .ok (.goto 5, 3) := by decide +kernel
theorem dX1_findFlows_160 : decode cX1_findFlows 160 = .ok (.iload 9, 2) := by decide +kernel
theorem dX1_findFlows_162 : decode cX1_findFlows 162 = .ok (.istore 10, 2) := by decide +kernel
theorem dX1_findFlows_164 : decode cX1_findFlows 164 = .ok (.aload_n 0, 1) := by decide +kernel
theorem dX1_findFlows_165 : decode cX1_findFlows 165 = .ok (.getfield 52, 3) := by decide +kernel
theorem dX1_findFlows_168 : decode cX1_findFlows 168 = .ok (.iload_n 2, 1) := by decide +kernel
theorem dX1_findFlows_169 : decode cX1_findFlows 169 = .ok (.iload_n 3, 1) := by decide +kernel
theorem dX1_findFlows_170 : decode cX1_findFlows 170 = .ok (.iload 4, 2) := by decide +kernel
theorem dX1_findFlows_172 : decode cX1_findFlows 172 = .ok (.if_icmp .lt 8, 3) := by decide +kernel
theorem dX1_findFlows_175 : decode cX1_findFlows 175 = .ok (.iload 7, 2) := by decide +kernel
theorem dX1_findFlows_177 : decode cX1_findFlows 177 = .ok (.goto 6, 3) := by decide +kernel
theorem dX1_findFlows_180 : decode cX1_findFlows 180 = .ok (.iload 7, 2) := by decide +kernel
theorem dX1_findFlows_182 : decode cX1_findFlows 182 = .ok (.ineg, 1) := by decide +kernel
theorem dX1_findFlows_183 : decode cX1_findFlows 183 = .ok (.iastore, 1) := by decide +kernel
theorem dX1_findFlows_184 : decode cX1_findFlows 184 = .ok (.aload_n 0, 1) := by decide +kernel
theorem dX1_findFlows_185 : decode cX1_findFlows 185 = .ok (.getfield 55, 3) := by decide +kernel
theorem dX1_findFlows_188 : decode cX1_findFlows 188 = .ok (.iload_n 2, 1) := by decide +kernel
theorem dX1_findFlows_189 : decode cX1_findFlows 189 = .ok (.iload_n 3, 1) := by decide +kernel
theorem dX1_findFlows_190 : decode cX1_findFlows 190 = .ok (.iload 4, 2) := by decide +kernel
theorem dX1_findFlows_192 : decode cX1_findFlows 192 = .ok (.if_icmp .lt 8, 3) := by decide +kernel
theorem dX1_findFlows_195 : decode cX1_findFlows 195 = .ok (.iload 10, 2) := by decide +kernel
theorem dX1_findFlows_197 : decode cX1_findFlows 197 = .ok (.goto 6, 3) := by decide +kernel
theorem dX1_findFlows_200 : decode cX1_findFlows 200 = .ok (.iload 10, 2) := by decide +kernel
theorem dX1_findFlows_202 : decode cX1_findFlows 202 = .ok (.ineg, 1) := by decide +kernel
theorem dX1_findFlows_203 : decode cX1_findFlows 203 = .ok (.iastore, 1) := by decide +kernel
theorem dX1_findFlows_204 : decode cX1_findFlows 204 = .ok (.iinc 2 1, 3) := by decide +kernel
theorem dX1_findFlows_207 : decode cX1_findFlows 207 = .ok (.goto (-200), 3) := by decide +kernel
theorem dX1_findFlows_210 : decode cX1_findFlows 210 = .ok (.return_, 1) := by decide +kernel
theorem dX1_surfaceOf_0 : decode cX1_surfaceOf 0 = .ok (.iload_n 1, 1) := by decide +kernel
theorem dX1_surfaceOf_1 : decode cX1_surfaceOf 1 = .ok (.ifCond .lt 18, 3) := by decide +kernel
theorem dX1_surfaceOf_4 : decode cX1_surfaceOf 4 = .ok (.iload_n 1, 1) := by decide +kernel
theorem dX1_surfaceOf_5 : decode cX1_surfaceOf 5 = .ok (.bipush 7, 2) := by decide +kernel
theorem dX1_surfaceOf_7 : decode cX1_surfaceOf 7 = .ok (.if_icmp .gt 12, 3) := by decide +kernel
theorem dX1_surfaceOf_10 : decode cX1_surfaceOf 10 = .ok (.aload_n 0, 1) := by decide +kernel
theorem dX1_surfaceOf_11 : decode cX1_surfaceOf 11 = .ok (.getfield 46, 3) := by decide +kernel
theorem dX1_surfaceOf_14 : decode cX1_surfaceOf 14 = .ok (.iload_n 1, 1) := by decide +kernel
theorem dX1_surfaceOf_15 : decode cX1_surfaceOf 15 = .ok (.iaload, 1) := by decide +kernel
theorem dX1_surfaceOf_16 : decode cX1_surfaceOf 16 = .ok (.goto 4, 3) := by decide +kernel
theorem dX1_surfaceOf_19 : decode cX1_surfaceOf 19 = .ok (.iconst 0, 1) := by decide +kernel
theorem dX1_surfaceOf_20 : decode cX1_surfaceOf 20 = .ok (.ireturn, 1) := by decide +kernel
theorem dX1_letThrough_0 : decode cX1_letThrough 0 = .ok (.aload_n 0, 1) := by decide +kernel
theorem dX1_letThrough_1 : decode cX1_letThrough 1 = .ok (.getfield 12, 3) := by decide +kernel
theorem dX1_letThrough_4 : decode cX1_letThrough 4 = .ok (.getfield 91, 3) := by decide +kernel
theorem dX1_letThrough_7 : decode cX1_letThrough 7 = .ok (.astore_n 1, 1) := by decide +kernel
theorem dX1_letThrough_8 : decode cX1_letThrough 8 = .ok (.iconst 0, 1) := by decide +kernel
theorem dX1_letThrough_9 : decode cX1_letThrough 9 = .ok (.istore_n 2, 1) := by decide +kernel
theorem dX1_letThrough_10 : decode cX1_letThrough 10 = .ok (.iload_n 2, 1) := by decide +kernel
theorem dX1_letThrough_11 : decode cX1_letThrough 11 = .ok (.aload_n 0, 1) := by decide +kernel
theorem dX1_letThrough_12 : decode cX1_letThrough 12 = .ok (.getfield 21, 3) := by decide +kernel
theorem dX1_letThrough_15 : decode cX1_letThrough 15 = .ok (.getfield 129, 3) := by decide +kernel
theorem dX1_letThrough_18 : decode cX1_letThrough 18 = .ok (.if_icmp .ge 141, 3) := by decide +kernel
theorem dX1_letThrough_21 : decode cX1_letThrough 21 = .ok (.aload_n 0, 1) := by decide +kernel
theorem dX1_letThrough_22 : decode cX1_letThrough 22 = .ok (.getfield 55, 3) := by decide +kernel
theorem dX1_letThrough_25 : decode cX1_letThrough 25 = .ok (.iload_n 2, 1) := by decide +kernel
theorem dX1_letThrough_26 : decode cX1_letThrough 26 = .ok (.iaload, 1) := by decide +kernel
theorem dX1_letThrough_27 : decode cX1_letThrough 27 = .ok (.ifCond .lt 15, 3) := by decide +kernel
theorem dX1_letThrough_30 : decode cX1_letThrough 30 = .ok (.aload_n 0, 1) := by decide +kernel
theorem dX1_letThrough_31 : decode cX1_letThrough 31 = .ok (.getfield 21, 3) := by decide +kernel
theorem dX1_letThrough_34 : decode cX1_letThrough 34 = .ok (.getfield 130, 3) := by decide +kernel
theorem dX1_letThrough_37 : decode cX1_letThrough 37 = .ok (.iload_n 2, 1) := by decide +kernel
theorem dX1_letThrough_38 : decode cX1_letThrough 38 = .ok (.iaload, 1) := by decide +kernel
theorem dX1_letThrough_39 : decode cX1_letThrough 39 = .ok (.goto 12, 3) := by decide +kernel
theorem dX1_letThrough_42 : decode cX1_letThrough 42 = .ok (.aload_n 0, 1) := by decide +kernel
theorem dX1_letThrough_43 : decode cX1_letThrough 43 = .ok (.getfield 21, 3) := by decide +kernel
theorem dX1_letThrough_46 : decode cX1_letThrough 46 = .ok (.getfield 136, 3) := by decide +kernel
theorem dX1_letThrough_49 : decode cX1_letThrough 49 = .ok (.iload_n 2, 1) := by decide +kernel
theorem dX1_letThrough_50 : decode cX1_letThrough 50 = .ok (.iaload, 1) := by decide +kernel
theorem dX1_letThrough_51 : decode cX1_letThrough 51 = .ok (.istore_n 3, 1) := by decide +kernel
theorem dX1_letThrough_52 : decode cX1_letThrough 52 = .ok (.aload_n 0, 1) := by decide +kernel
theorem dX1_letThrough_53 : decode cX1_letThrough 53 = .ok (.getfield 55, 3) := by decide +kernel
theorem dX1_letThrough_56 : decode cX1_letThrough 56 = .ok (.iload_n 2, 1) := by decide +kernel
theorem dX1_letThrough_57 : decode cX1_letThrough 57 = .ok (.iaload, 1) := by decide +kernel
theorem dX1_letThrough_58 : decode cX1_letThrough 58 = .ok (.ifCond .lt 15, 3) := by decide +kernel
theorem dX1_letThrough_61 : decode cX1_letThrough 61 = .ok (.aload_n 0, 1) := by decide +kernel
theorem dX1_letThrough_62 : decode cX1_letThrough 62 = .ok (.getfield 21, 3) := by decide +kernel
theorem dX1_letThrough_65 : decode cX1_letThrough 65 = .ok (.getfield 136, 3) := by decide +kernel
theorem dX1_letThrough_68 : decode cX1_letThrough 68 = .ok (.iload_n 2, 1) := by decide +kernel
theorem dX1_letThrough_69 : decode cX1_letThrough 69 = .ok (.iaload, 1) := by decide +kernel
theorem dX1_letThrough_70 : decode cX1_letThrough 70 = .ok (.goto 12, 3) := by decide +kernel
theorem dX1_letThrough_73 : decode cX1_letThrough 73 = .ok (.aload_n 0, 1) := by decide +kernel
theorem dX1_letThrough_74 : decode cX1_letThrough 74 = .ok (.getfield 21, 3) := by decide +kernel
theorem dX1_letThrough_77 : decode cX1_letThrough 77 = .ok (.getfield 130, 3) := by decide +kernel
theorem dX1_letThrough_80 : decode cX1_letThrough 80 = .ok (.iload_n 2, 1) := by decide +kernel
theorem dX1_letThrough_81 : decode cX1_letThrough 81 = .ok (.iaload, 1) := by decide +kernel
theorem dX1_letThrough_82 : decode cX1_letThrough 82 = .ok (.istore 4, 2) := by decide +kernel
theorem dX1_letThrough_84 : decode cX1_letThrough 84 = .ok (.aload_n 0, 1) := by decide +kernel
theorem dX1_letThrough_85 : decode cX1_letThrough 85 = .ok (.getfield 55, 3) := by decide +kernel
theorem dX1_letThrough_88 : decode cX1_letThrough 88 = .ok (.iload_n 2, 1) := by decide +kernel
theorem dX1_letThrough_89 : decode cX1_letThrough 89 = .ok (.iaload, 1) := by decide +kernel
theorem dX1_letThrough_90 : decode cX1_letThrough 90 = .ok (.invokestatic 161, 3) := by decide +kernel
theorem dX1_letThrough_93 : decode cX1_letThrough 93 = .ok (.istore 5, 2) := by decide +kernel
theorem dX1_letThrough_95 : decode cX1_letThrough 95 = .ok (.iload_n 3, 1) := by decide +kernel
theorem dX1_letThrough_96 : decode cX1_letThrough 96 = .ok (.invokestatic 164, 3) := by decide +kernel
theorem dX1_letThrough_99 : decode cX1_letThrough 99 = .ok (.ifCond .eq 21, 3) := by decide +kernel
theorem dX1_letThrough_102 : decode cX1_letThrough 102 = .ok (.iload 5, 2) := by decide +kernel
theorem dX1_letThrough_104 : decode cX1_letThrough 104 = .ok (.aload_n 1, 1) := by decide +kernel
theorem dX1_letThrough_105 : decode cX1_letThrough 105 = .ok (.iload_n 3, 1) := by decide +kernel
theorem dX1_letThrough_106 : decode cX1_letThrough 106 = .ok (.iaload, 1) := by decide +kernel
theorem dX1_letThrough_107 : decode cX1_letThrough 107 = .ok (.invokestatic 148, 3) := by decide +kernel
theorem dX1_letThrough_110 : decode cX1_letThrough 110 = .ok (.istore 5, 2) := by decide +kernel
theorem dX1_letThrough_112 : decode cX1_letThrough 112 = .ok (.aload_n 1, 1) := by decide +kernel
theorem dX1_letThrough_113 : decode cX1_letThrough 113 = .ok (.iload_n 3, 1) := by decide +kernel
theorem dX1_letThrough_114 : decode cX1_letThrough 114 = .ok (.dup2, 1) := by decide +kernel
theorem dX1_letThrough_115 : decode cX1_letThrough 115 = .ok (.iaload, 1) := by decide +kernel
theorem dX1_letThrough_116 : decode cX1_letThrough 116 = .ok (.iload 5, 2) := by decide +kernel
theorem dX1_letThrough_118 : decode cX1_letThrough 118 = .ok (.isub, 1) := by decide +kernel
theorem dX1_letThrough_119 : decode cX1_letThrough 119 = .ok (.iastore, 1) := by decide +kernel
theorem dX1_letThrough_120 : decode cX1_letThrough 120 = .ok (.iload 4, 2) := by decide +kernel
theorem dX1_letThrough_122 : decode cX1_letThrough 122 = .ok (.invokestatic 164, 3) := by decide +kernel
theorem dX1_letThrough_125 : decode cX1_letThrough 125 = .ok (.ifCond .eq 20, 3) := by decide +kernel
theorem dX1_letThrough_128 : decode cX1_letThrough 128 = .ok (.aload_n 1, 1) := by decide +kernel
theorem dX1_letThrough_129 : decode cX1_letThrough 129 = .ok (.iload 4, 2) := by decide +kernel
theorem dX1_letThrough_131 : decode cX1_letThrough 131 = .ok (.sipush 9999, 3) := by decide +kernel
theorem dX1_letThrough_134 : decode cX1_letThrough 134 = .ok (.aload_n 1, 1) := by decide +kernel
theorem dX1_letThrough_135 : decode cX1_letThrough 135 = .ok (.iload 4, 2) := by decide +kernel
theorem dX1_letThrough_137 : decode cX1_letThrough 137 = .ok (.iaload, 1) := by decide +kernel
theorem dX1_letThrough_138 : decode cX1_letThrough 138 = .ok (.iload 5, 2) := by decide +kernel
theorem dX1_letThrough_140 : decode cX1_letThrough 140 = .ok (.iadd, 1) := by decide +kernel
theorem dX1_letThrough_141 : decode cX1_letThrough 141 = .ok (.invokestatic 148, 3) := by decide +kernel
theorem dX1_letThrough_144 : decode cX1_letThrough 144 = .ok (.iastore, 1) := by decide +kernel
theorem dX1_letThrough_145 : decode cX1_letThrough 145 = .ok (.aload_n 0, 1) := by decide +kernel
theorem dX1_letThrough_146 : decode cX1_letThrough 146 = .ok (.getfield 58, 3) := by decide +kernel
theorem dX1_letThrough_149 : decode cX1_letThrough 149 = .ok (.iload_n 2, 1) := by decide +kernel
theorem dX1_letThrough_150 : decode cX1_letThrough 150 = .ok (.iload 5, 2) := by decide +kernel
theorem dX1_letThrough_152 : decode cX1_letThrough 152 = .ok (.iastore, 1) := by decide +kernel
theorem dX1_letThrough_153 : decode cX1_letThrough 153 = .ok (.iinc 2 1, 3) := by decide +kernel
theorem dX1_letThrough_156 : decode cX1_letThrough 156 = .ok (.goto (-146), 3) := by decide +kernel
theorem dX1_letThrough_159 : decode cX1_letThrough 159 = .ok (.return_, 1) := by decide +kernel
theorem dX1_isRoomEnd_0 : decode cX1_isRoomEnd 0 = .ok (.iload_n 0, 1) := by decide +kernel
theorem dX1_isRoomEnd_1 : decode cX1_isRoomEnd 1 = .ok (.ifCond .lt 13, 3) := by decide +kernel
theorem dX1_isRoomEnd_4 : decode cX1_isRoomEnd 4 = .ok (.iload_n 0, 1) := by decide +kernel
theorem dX1_isRoomEnd_5 : decode cX1_isRoomEnd 5 = .ok (.bipush 7, 2) := by decide +kernel
theorem dX1_isRoomEnd_7 : decode cX1_isRoomEnd 7 = .ok (.if_icmp .ge 7, 3) := by decide +kernel
theorem dX1_isRoomEnd_10 : decode cX1_isRoomEnd 10 = .ok (.iconst 1, 1) := by decide +kernel
theorem dX1_isRoomEnd_11 : decode cX1_isRoomEnd 11 = .ok (.goto 4, 3) := by decide +kernel
theorem dX1_isRoomEnd_14 : decode cX1_isRoomEnd 14 = .ok (.iconst 0, 1) := by decide +kernel
theorem dX1_isRoomEnd_15 : decode cX1_isRoomEnd 15 = .ok (.ireturn, 1) := by decide +kernel
theorem dX1_goOneHour_0 : decode cX1_goOneHour 0 = .ok (.aload_n 0, 1) := by decide +kernel
theorem dX1_goOneHour_1 : decode cX1_goOneHour 1 = .ok (.invokevirtual 167, 3) := by decide +kernel
theorem dX1_goOneHour_4 : decode cX1_goOneHour 4 = .ok (.aload_n 0, 1) := by decide +kernel
theorem dX1_goOneHour_5 : decode cX1_goOneHour 5 = .ok (.invokevirtual 170, 3) := by decide +kernel
theorem dX1_goOneHour_8 : decode cX1_goOneHour 8 = .ok (.aload_n 0, 1) := by decide +kernel
theorem dX1_goOneHour_9 : decode cX1_goOneHour 9 = .ok (.invokevirtual 173, 3) := by decide +kernel
theorem dX1_goOneHour_12 : decode cX1_goOneHour 12 = .ok (.aload_n 0, 1) := by decide +kernel
theorem dX1_goOneHour_13 : decode cX1_goOneHour 13 = .ok (.getfield 42, 3) := by decide +kernel
theorem dX1_goOneHour_16 : decode cX1_goOneHour 16 = .ok (.aload_n 0, 1) := by decide +kernel
theorem dX1_goOneHour_17 : decode cX1_goOneHour 17 = .ok (.invokevirtual 176, 3) := by decide +kernel
theorem dX1_goOneHour_20 : decode cX1_goOneHour 20 = .ok (.ishr, 1) := by decide +kernel
theorem dX1_goOneHour_21 : decode cX1_goOneHour 21 = .ok (.iconst 1, 1) := by decide +kernel
theorem dX1_goOneHour_22 : decode cX1_goOneHour 22 = .ok (.iand, 1) := by decide +kernel
theorem dX1_goOneHour_23 : decode cX1_goOneHour 23 = .ok (.iconst 1, 1) := by decide +kernel
theorem dX1_goOneHour_24 : decode cX1_goOneHour 24 = .ok (.if_icmp .ne 10, 3) := by decide +kernel
theorem dX1_goOneHour_27 : decode cX1_goOneHour 27 = .ok (.aload_n 0, 1) := by decide +kernel
theorem dX1_goOneHour_28 : decode cX1_goOneHour 28 = .ok (.getfield 12, 3) := by decide +kernel
theorem dX1_goOneHour_31 : decode cX1_goOneHour 31 = .ok (.invokevirtual 179, 3) := by decide +kernel
theorem dX1_goOneHour_34 : decode cX1_goOneHour 34 = .ok (.aload_n 0, 1) := by decide +kernel
theorem dX1_goOneHour_35 : decode cX1_goOneHour 35 = .ok (.getfield 12, 3) := by decide +kernel
theorem dX1_goOneHour_38 : decode cX1_goOneHour 38 = .ok (.invokevirtual 182, 3) := by decide +kernel
theorem dX1_goOneHour_41 : decode cX1_goOneHour 41 = .ok (.aload_n 0, 1) := by decide +kernel
theorem dX1_goOneHour_42 : decode cX1_goOneHour 42 = .ok (.dup, 1) := by decide +kernel
theorem dX1_goOneHour_43 : decode cX1_goOneHour 43 = .ok (.getfield 72, 3) := by decide +kernel
theorem dX1_goOneHour_46 : decode cX1_goOneHour 46 = .ok (.iconst 1, 1) := by decide +kernel
theorem dX1_goOneHour_47 : decode cX1_goOneHour 47 = .ok (.iadd, 1) := by decide +kernel
theorem dX1_goOneHour_48 : decode cX1_goOneHour 48 = .ok (.putfield 72, 3) := by decide +kernel
theorem dX1_goOneHour_51 : decode cX1_goOneHour 51 = .ok (.return_, 1) := by decide +kernel
theorem dX1_goOn_0 : decode cX1_goOn 0 = .ok (.iconst 0, 1) := by decide +kernel
theorem dX1_goOn_1 : decode cX1_goOn 1 = .ok (.istore_n 2, 1) := by decide +kernel
theorem dX1_goOn_2 : decode cX1_goOn 2 = .ok (.iload_n 2, 1) := by decide +kernel
theorem dX1_goOn_3 : decode cX1_goOn 3 = .ok (.iload_n 1, 1) := by decide +kernel
theorem dX1_goOn_4 : decode cX1_goOn 4 = .ok (.if_icmp .ge 13, 3) := by decide +kernel
theorem dX1_goOn_7 : decode cX1_goOn 7 = .ok (.aload_n 0, 1) := by decide +kernel
theorem dX1_goOn_8 : decode cX1_goOn 8 = .ok (.invokevirtual 185, 3) := by decide +kernel
theorem dX1_goOn_11 : decode cX1_goOn 11 = .ok (.iinc 2 1, 3) := by decide +kernel
theorem dX1_goOn_14 : decode cX1_goOn 14 = .ok (.goto (-12), 3) := by decide +kernel
theorem dX1_goOn_17 : decode cX1_goOn 17 = .ok (.return_, 1) := by decide +kernel
theorem dX1_waterIn_0 : decode cX1_waterIn 0 = .ok (.aload_n 0, 1) := by decide +kernel
theorem dX1_waterIn_1 : decode cX1_waterIn 1 = .ok (.iload_n 1, 1) := by decide +kernel
theorem dX1_waterIn_2 : decode cX1_waterIn 2 = .ok (.invokevirtual 188, 3) := by decide +kernel
theorem dX1_waterIn_5 : decode cX1_waterIn 5 = .ok (.aload_n 0, 1) := by decide +kernel
theorem dX1_waterIn_6 : decode cX1_waterIn 6 = .ok (.getfield 12, 3) := by decide +kernel
theorem dX1_waterIn_9 : decode cX1_waterIn 9 = .ok (.invokevirtual 191, 3) := by decide +kernel
theorem dX1_waterIn_12 : decode cX1_waterIn 12 = .ok (.ireturn, 1) := by decide +kernel
theorem dX2_init_0 : decode cX2_init 0 = .ok (.aload_n 0, 1) := by decide +kernel
theorem dX2_init_1 : decode cX2_init 1 = .ok (.invokespecial 3, 3) := by decide +kernel
theorem dX2_init_4 : decode cX2_init 4 = .ok (.aload_n 0, 1) := by decide +kernel
theorem dX2_init_5 : decode cX2_init 5 = .ok (.new 9, 3) := by decide +kernel
theorem dX2_init_8 : decode cX2_init 8 = .ok (.dup, 1) := by decide +kernel
theorem dX2_init_9 : decode cX2_init 9 = .ok (.sipush 900, 3) := by decide +kernel
theorem dX2_init_12 : decode cX2_init 12 = .ok (.invokespecial 11, 3) := by decide +kernel
theorem dX2_init_15 : decode cX2_init 15 = .ok (.putfield 14, 3) := by decide +kernel
theorem dX2_init_18 : decode cX2_init 18 = .ok (.aload_n 0, 1) := by decide +kernel
theorem dX2_init_19 : decode cX2_init 19 = .ok (.new 20, 3) := by decide +kernel
theorem dX2_init_22 : decode cX2_init 22 = .ok (.dup, 1) := by decide +kernel
theorem dX2_init_23 : decode cX2_init 23 = .ok (.invokespecial 22, 3) := by decide +kernel
theorem dX2_init_26 : decode cX2_init 26 = .ok (.putfield 23, 3) := by decide +kernel
theorem dX2_init_29 : decode cX2_init 29 = .ok (.return_, 1) := by decide +kernel
theorem dX2_readAll_0 : decode cX2_readAll 0 = .ok (.aload_n 0, 1) := by decide +kernel
theorem dX2_readAll_1 : decode cX2_readAll 1 = .ok (.getfield 23, 3) := by decide +kernel
theorem dX2_readAll_4 : decode cX2_readAll 4 = .ok (.invokevirtual 27, 3) := by decide +kernel
theorem dX2_readAll_7 : decode cX2_readAll 7 = .ok (.aload_n 0, 1) := by decide +kernel
theorem dX2_readAll_8 : decode cX2_readAll 8 = .ok (.getfield 14, 3) := by decide +kernel
theorem dX2_readAll_11 : decode cX2_readAll 11 = .ok (.aload_n 1, 1) := by decide +kernel
theorem dX2_readAll_12 : decode cX2_readAll 12 = .ok (.iload_n 2, 1) := by decide +kernel
theorem dX2_readAll_13 : decode cX2_readAll 13 = .ok (.invokevirtual 30, 3) := by decide +kernel
theorem dX2_readAll_16 : decode cX2_readAll 16 = .ok (.iconst 0, 1) := by decide +kernel
theorem dX2_readAll_17 : decode cX2_readAll 17 = .ok (.istore_n 3, 1) := by decide +kernel
theorem dX2_readAll_18 : decode cX2_readAll 18 = .ok (.iload_n 3, 1) := by decide +kernel
theorem dX2_readAll_19 : decode cX2_readAll 19 = .ok (.sipush 900, 3) := by decide +kernel
theorem dX2_readAll_22 : decode cX2_readAll 22 = .ok (.if_icmp .gt 28, 3) := by decide +kernel
theorem dX2_readAll_25 : decode cX2_readAll 25 = .ok (.aload_n 0, 1) := by decide +kernel
theorem dX2_readAll_26 : decode cX2_readAll 26 = .ok (.getfield 14, 3) := by decide +kernel
theorem dX2_readAll_29 : decode cX2_readAll 29 = .ok (.invokevirtual 34, 3) := by decide +kernel
theorem dX2_readAll_32 : decode cX2_readAll 32 = .ok (.ifCond .ne 18, 3) := by decide +kernel
theorem dX2_readAll_35 : decode cX2_readAll 35 = .ok (.aload_n 0, 1) := by decide +kernel
theorem dX2_readAll_36 : decode cX2_readAll 36 = .ok (.invokevirtual 38, 3) := by decide +kernel
theorem dX2_readAll_39 : decode cX2_readAll 39 = .ok (.ifCond .ne 5, 3) := by decide +kernel
theorem dX2_readAll_42 : decode cX2_readAll 42 = .ok (.iconst 0, 1) := by decide +kernel
theorem dX2_readAll_43 : decode cX2_readAll 43 = .ok (.ireturn, 1) := by decide +kernel
theorem dX2_readAll_44 : decode cX2_readAll 44 = .ok (.iinc 3 1, 3) := by decide +kernel
theorem dX2_readAll_47 : decode cX2_readAll 47 = .ok (.goto (-29), 3) := by decide +kernel
theorem dX2_readAll_50 : decode cX2_readAll 50 = .ok (.iconst 1, 1) := by decide +kernel
theorem dX2_readAll_51 : decode cX2_readAll 51 = .ok (.ireturn, 1) := by decide +kernel
theorem dX2_readPart_0 : decode cX2_readPart 0 = .ok (.aload_n 0, 1) := by decide +kernel
theorem dX2_readPart_1 : decode cX2_readPart 1 = .ok (.getfield 14, 3) := by decide +kernel
theorem dX2_readPart_4 : decode cX2_readPart 4 = .ok (.getfield 41, 3) := by decide +kernel
theorem dX2_readPart_7 : decode cX2_readPart 7 = .ok (.tableswitch 103 0 14 #[73, 103, 103, 103, 103, 78, 103, 103, 103, 103, 103, 83, 88, 93, 98], 73) := by decide +kernel
theorem dX2_readPart_80 : decode cX2_readPart 80 = .ok (.aload_n 0, 1) := by decide +kernel
theorem dX2_readPart_81 : decode cX2_readPart 81 = .ok (.invokevirtual 45, 3) := by decide +kernel
theorem dX2_readPart_84 : decode cX2_readPart 84 = .ok (.ireturn, 1) := by decide +kernel
theorem dX2_readPart_85 : decode cX2_readPart 85 = .ok (.aload_n 0, 1) := by decide +kernel
theorem dX2_readPart_86 : decode cX2_readPart 86 = .ok (.invokevirtual 48, 3) := by decide +kernel
theorem dX2_readPart_89 : decode cX2_readPart 89 = .ok (.ireturn, 1) := by decide +kernel
theorem dX2_readPart_90 : decode cX2_readPart 90 = .ok (.aload_n 0, 1) := by decide +kernel
theorem dX2_readPart_91 : decode cX2_readPart 91 = .ok (.invokevirtual 51, 3) := by decide +kernel
theorem dX2_readPart_94 : decode cX2_readPart 94 = .ok (.ireturn, 1) := by decide +kernel
theorem dX2_readPart_95 : decode cX2_readPart 95 = .ok (.aload_n 0, 1) := by decide +kernel
theorem dX2_readPart_96 : decode cX2_readPart 96 = .ok (.invokevirtual 54, 3) := by decide +kernel
theorem dX2_readPart_99 : decode cX2_readPart 99 = .ok (.ireturn, 1) := by decide +kernel
theorem dX2_readPart_100 : decode cX2_readPart 100 = .ok (.aload_n 0, 1) := by decide +kernel
theorem dX2_readPart_101 : decode cX2_readPart 101 = .ok (.invokevirtual 57, 3) := by decide +kernel
theorem dX2_readPart_104 : decode cX2_readPart 104 = .ok (.ireturn, 1) := by decide +kernel
theorem dX2_readPart_105 : decode cX2_readPart 105 = .ok (.aload_n 0, 1) := by decide +kernel
theorem dX2_readPart_106 : decode cX2_readPart 106 = .ok (.invokevirtual 60, 3) := by decide +kernel
theorem dX2_readPart_109 : decode cX2_readPart 109 = .ok (.ireturn, 1) := by decide +kernel
theorem dX2_readPart_110 : decode cX2_readPart 110 = .ok (.aload_n 0, 1) := by decide +kernel
theorem dX2_readPart_111 : decode cX2_readPart 111 = .ok (.getfield 14, 3) := by decide +kernel
theorem dX2_readPart_114 : decode cX2_readPart 114 = .ok (.iconst 2, 1) := by decide +kernel
theorem dX2_readPart_115 : decode cX2_readPart 115 = .ok (.invokevirtual 63, 3) := by decide +kernel
theorem dX2_readPart_118 : decode cX2_readPart 118 = .ok (.ireturn, 1) := by decide +kernel
theorem dX2_readRoom_0 : decode cX2_readRoom 0 = .ok (.aload_n 0, 1) := by decide +kernel
theorem dX2_readRoom_1 : decode cX2_readRoom 1 = .ok (.getfield 23, 3) := by decide +kernel
theorem dX2_readRoom_4 : decode cX2_readRoom 4 = .ok (.getfield 67, 3) := by decide +kernel
theorem dX2_readRoom_7 : decode cX2_readRoom 7 = .ok (.getfield 71, 3) := by decide +kernel
theorem dX2_readRoom_10 : decode cX2_readRoom 10 = .ok (.bipush 7, 2) := by decide +kernel
theorem dX2_readRoom_12 : decode cX2_readRoom 12 = .ok (.if_icmp .lt 13, 3) := by decide +kernel
theorem dX2_readRoom_15 : decode cX2_readRoom 15 = .ok (.aload_n 0, 1) := by decide +kernel
theorem dX2_readRoom_16 : decode cX2_readRoom 16 = .ok (.getfield 14, 3) := by decide +kernel
theorem dX2_readRoom_19 : decode cX2_readRoom 19 = .ok (.bipush 6, 2) := by decide +kernel
theorem dX2_readRoom_21 : decode cX2_readRoom 21 = .ok (.invokevirtual 63, 3) := by decide +kernel
theorem dX2_readRoom_24 : decode cX2_readRoom 24 = .ok (.ireturn, 1) := by decide +kernel
theorem dX2_readRoom_25 : decode cX2_readRoom 25 = .ok (.aload_n 0, 1) := by decide +kernel
theorem dX2_readRoom_26 : decode cX2_readRoom 26 = .ok (.getfield 14, 3) := by decide +kernel
theorem dX2_readRoom_29 : decode cX2_readRoom 29 = .ok (.invokevirtual 76, 3) := by decide +kernel
theorem dX2_readRoom_32 : decode cX2_readRoom 32 = .ok (.aload_n 0, 1) := by decide +kernel
theorem dX2_readRoom_33 : decode cX2_readRoom 33 = .ok (.getfield 14, 3) := by decide +kernel
theorem dX2_readRoom_36 : decode cX2_readRoom 36 = .ok (.aload_n 0, 1) := by decide +kernel
theorem dX2_readRoom_37 : decode cX2_readRoom 37 = .ok (.getfield 23, 3) := by decide +kernel
theorem dX2_readRoom_40 : decode cX2_readRoom 40 = .ok (.invokevirtual 79, 3) := by decide +kernel
theorem dX2_readRoom_43 : decode cX2_readRoom 43 = .ok (.lstore_n 1, 1) := by decide +kernel
theorem dX2_readRoom_44 : decode cX2_readRoom 44 = .ok (.lload_n 1, 1) := by decide +kernel
theorem dX2_readRoom_45 : decode cX2_readRoom 45 = .ok (.lconst 0, 1) := by decide +kernel
theorem dX2_readRoom_46 : decode cX2_readRoom 46 = .ok (.lcmp, 1) := by decide +kernel
theorem dX2_readRoom_47 : decode cX2_readRoom 47 = .ok (.ifCond .eq 14, 3) := by decide +kernel
theorem dX2_readRoom_50 : decode cX2_readRoom 50 = .ok (.aload_n 0, 1) := by decide +kernel
theorem dX2_readRoom_51 : decode cX2_readRoom 51 = .ok (.getfield 14, 3) := by decide +kernel
theorem dX2_readRoom_54 : decode cX2_readRoom 54 = .ok (.iconst 1, 1) := by decide +kernel
theorem dX2_readRoom_55 : decode cX2_readRoom 55 = .ok (.invokevirtual 83, 3) := by decide +kernel
theorem dX2_readRoom_58 : decode cX2_readRoom 58 = .ok (.ifCond .ne 5, 3) := by decide +kernel
theorem dX2_readRoom_61 : decode cX2_readRoom 61 = .ok (.iconst 0, 1) := by decide +kernel
theorem dX2_readRoom_62 : decode cX2_readRoom 62 = .ok (.ireturn, 1) := by decide +kernel
theorem dX2_readRoom_63 : decode cX2_readRoom 63 = .ok (.aload_n 0, 1) := by decide +kernel
theorem dX2_readRoom_64 : decode cX2_readRoom 64 = .ok (.getfield 14, 3) := by decide +kernel
theorem dX2_readRoom_67 : decode cX2_readRoom 67 = .ok (.iconst 0, 1) := by decide +kernel
theorem dX2_readRoom_68 : decode cX2_readRoom 68 = .ok (.bipush 99, 2) := by decide +kernel
theorem dX2_readRoom_70 : decode cX2_readRoom 70 = .ok (.invokevirtual 86, 3) := by decide +kernel
theorem dX2_readRoom_73 : decode cX2_readRoom 73 = .ok (.istore_n 3, 1) := by decide +kernel
theorem dX2_readRoom_74 : decode cX2_readRoom 74 = .ok (.iload_n 3, 1) := by decide +kernel
theorem dX2_readRoom_75 : decode cX2_readRoom 75 = .ok (.iconst (-1), 1) := by decide +kernel
theorem dX2_readRoom_76 : decode cX2_readRoom 76 = .ok (.if_icmp .ne 5, 3) := by decide +kernel
theorem dX2_readRoom_79 : decode cX2_readRoom 79 = .ok (.iconst 0, 1) := by decide +kernel
theorem dX2_readRoom_80 : decode cX2_readRoom 80 = .ok (.ireturn, 1) := by decide +kernel
theorem dX2_readRoom_81 : decode cX2_readRoom 81 = .ok (.aload_n 0, 1) := by decide +kernel
theorem dX2_readRoom_82 : decode cX2_readRoom 82 = .ok (.getfield 14, 3) := by decide +kernel
theorem dX2_readRoom_85 : decode cX2_readRoom 85 = .ok (.iconst 2, 1) := by decide +kernel
theorem dX2_readRoom_86 : decode cX2_readRoom 86 = .ok (.iconst 1, 1) := by decide +kernel
theorem dX2_readRoom_87 : decode cX2_readRoom 87 = .ok (.bipush 20, 2) := by decide +kernel
theorem dX2_readRoom_89 : decode cX2_readRoom 89 = .ok (.iconst 1, 1) := by decide +kernel
theorem dX2_readRoom_90 : decode cX2_readRoom 90 = .ok (.invokevirtual 90, 3) := by decide +kernel
theorem dX2_readRoom_93 : decode cX2_readRoom 93 = .ok (.istore 4, 2) := by decide +kernel
theorem dX2_readRoom_95 : decode cX2_readRoom 95 = .ok (.iload 4, 2) := by decide +kernel
theorem dX2_readRoom_97 : decode cX2_readRoom 97 = .ok (.iconst (-1), 1) := by decide +kernel
theorem dX2_readRoom_98 : decode cX2_readRoom 98 = .ok (.if_icmp .ne 5, 3) := by decide +kernel
theorem dX2_readRoom_101 : decode cX2_readRoom 101 = .ok (.iconst 0, 1) := by decide +kernel
theorem dX2_readRoom_102 : decode cX2_readRoom 102 = .ok (.ireturn, 1) := by decide +kernel
theorem dX2_readRoom_103 : decode cX2_readRoom 103 = .ok (.aload_n 0, 1) := by decide +kernel
theorem dX2_readRoom_104 : decode cX2_readRoom 104 = .ok (.getfield 14, 3) := by decide +kernel
theorem dX2_readRoom_107 : decode cX2_readRoom 107 = .ok (.iconst 3, 1) := by decide +kernel
theorem dX2_readRoom_108 : decode cX2_readRoom 108 = .ok (.iconst 1, 1) := by decide +kernel
theorem dX2_readRoom_109 : decode cX2_readRoom 109 = .ok (.bipush 99, 2) := by decide +kernel
theorem dX2_readRoom_111 : decode cX2_readRoom 111 = .ok (.bipush 10, 2) := by decide +kernel
theorem dX2_readRoom_113 : decode cX2_readRoom 113 = .ok (.invokevirtual 90, 3) := by decide +kernel
theorem dX2_readRoom_116 : decode cX2_readRoom 116 = .ok (.istore 5, 2) := by decide +kernel
theorem dX2_readRoom_118 : decode cX2_readRoom 118 = .ok (.iload 5, 2) := by decide +kernel
theorem dX2_readRoom_120 : decode cX2_readRoom 120 = .ok (.iconst (-1), 1) := by decide +kernel
theorem dX2_readRoom_121 : decode cX2_readRoom 121 = .ok (.if_icmp .ne 5, 3) := by decide +kernel
theorem dX2_readRoom_124 : decode cX2_readRoom 124 = .ok (.iconst 0, 1) := by decide +kernel
theorem dX2_readRoom_125 : decode cX2_readRoom 125 = .ok (.ireturn, 1) := by decide +kernel
theorem dX2_readRoom_126 : decode cX2_readRoom 126 = .ok (.aload_n 0, 1) := by decide +kernel
theorem dX2_readRoom_127 : decode cX2_readRoom 127 = .ok (.getfield 14, 3) := by decide +kernel
theorem dX2_readRoom_130 : decode cX2_readRoom 130 = .ok (.iconst 4, 1) := by decide +kernel
theorem dX2_readRoom_131 : decode cX2_readRoom 131 = .ok (.iconst 0, 1) := by decide +kernel
theorem dX2_readRoom_132 : decode cX2_readRoom 132 = .ok (.sipush 999, 3) := by decide +kernel
theorem dX2_readRoom_135 : decode cX2_readRoom 135 = .ok (.iconst 0, 1) := by decide +kernel
theorem dX2_readRoom_136 : decode cX2_readRoom 136 = .ok (.invokevirtual 90, 3) := by decide +kernel
theorem dX2_readRoom_139 : decode cX2_readRoom 139 = .ok (.istore 6, 2) := by decide +kernel
theorem dX2_readRoom_141 : decode cX2_readRoom 141 = .ok (.iload 6, 2) := by decide +kernel
theorem dX2_readRoom_143 : decode cX2_readRoom 143 = .ok (.iconst (-1), 1) := by decide +kernel
theorem dX2_readRoom_144 : decode cX2_readRoom 144 = .ok (.if_icmp .eq 13, 3) := by decide +kernel
theorem dX2_readRoom_147 : decode cX2_readRoom 147 = .ok (.aload_n 0, 1) := by decide +kernel
theorem dX2_readRoom_148 : decode cX2_readRoom 148 = .ok (.getfield 14, 3) := by decide +kernel
theorem dX2_readRoom_151 : decode cX2_readRoom 151 = .ok (.invokevirtual 94, 3) := by decide +kernel
theorem dX2_readRoom_154 : decode cX2_readRoom 154 = .ok (.ifCond .ne 5, 3) := by decide +kernel
theorem dX2_readRoom_157 : decode cX2_readRoom 157 = .ok (.iconst 0, 1) := by decide +kernel
theorem dX2_readRoom_158 : decode cX2_readRoom 158 = .ok (.ireturn, 1) := by decide +kernel
theorem dX2_readRoom_159 : decode cX2_readRoom 159 = .ok (.aload_n 0, 1) := by decide +kernel
theorem dX2_readRoom_160 : decode cX2_readRoom 160 = .ok (.getfield 23, 3) := by decide +kernel
theorem dX2_readRoom_163 : decode cX2_readRoom 163 = .ok (.getfield 67, 3) := by decide +kernel
theorem dX2_readRoom_166 : decode cX2_readRoom 166 = .ok (.lload_n 1, 1) := by decide +kernel
theorem dX2_readRoom_167 : decode cX2_readRoom 167 = .ok (.iload_n 3, 1) := by decide +kernel
theorem dX2_readRoom_168 : decode cX2_readRoom 168 = .ok (.iload 4, 2) := by decide +kernel
theorem dX2_readRoom_170 : decode cX2_readRoom 170 = .ok (.iload 5, 2) := by decide +kernel
theorem dX2_readRoom_172 : decode cX2_readRoom 172 = .ok (.iload 6, 2) := by decide +kernel
theorem dX2_readRoom_174 : decode cX2_readRoom 174 = .ok (.invokevirtual 97, 3) := by decide +kernel
theorem dX2_readRoom_177 : decode cX2_readRoom 177 = .ok (.iconst 1, 1) := by decide +kernel
theorem dX2_readRoom_178 : decode cX2_readRoom 178 = .ok (.ireturn, 1) := by decide +kernel
theorem dX2_readDoor_0 : decode cX2_readDoor 0 = .ok (.aload_n 0, 1) := by decide +kernel
theorem dX2_readDoor_1 : decode cX2_readDoor 1 = .ok (.getfield 23, 3) := by decide +kernel
theorem dX2_readDoor_4 : decode cX2_readDoor 4 = .ok (.getfield 101, 3) := by decide +kernel
theorem dX2_readDoor_7 : decode cX2_readDoor 7 = .ok (.getfield 105, 3) := by decide +kernel
theorem dX2_readDoor_10 : decode cX2_readDoor 10 = .ok (.bipush 10, 2) := by decide +kernel
theorem dX2_readDoor_12 : decode cX2_readDoor 12 = .ok (.if_icmp .lt 13, 3) := by decide +kernel
theorem dX2_readDoor_15 : decode cX2_readDoor 15 = .ok (.aload_n 0, 1) := by decide +kernel
theorem dX2_readDoor_16 : decode cX2_readDoor 16 = .ok (.getfield 14, 3) := by decide +kernel
theorem dX2_readDoor_19 : decode cX2_readDoor 19 = .ok (.bipush 6, 2) := by decide +kernel
theorem dX2_readDoor_21 : decode cX2_readDoor 21 = .ok (.invokevirtual 63, 3) := by decide +kernel
theorem dX2_readDoor_24 : decode cX2_readDoor 24 = .ok (.ireturn, 1) := by decide +kernel
theorem dX2_readDoor_25 : decode cX2_readDoor 25 = .ok (.aload_n 0, 1) := by decide +kernel
theorem dX2_readDoor_26 : decode cX2_readDoor 26 = .ok (.getfield 14, 3) := by decide +kernel
theorem dX2_readDoor_29 : decode cX2_readDoor 29 = .ok (.invokevirtual 76, 3) := by decide +kernel
theorem dX2_readDoor_32 : decode cX2_readDoor 32 = .ok (.aload_n 0, 1) := by decide +kernel
theorem dX2_readDoor_33 : decode cX2_readDoor 33 = .ok (.getfield 14, 3) := by decide +kernel
theorem dX2_readDoor_36 : decode cX2_readDoor 36 = .ok (.aload_n 0, 1) := by decide +kernel
theorem dX2_readDoor_37 : decode cX2_readDoor 37 = .ok (.getfield 23, 3) := by decide +kernel
theorem dX2_readDoor_40 : decode cX2_readDoor 40 = .ok (.invokevirtual 79, 3) := by decide +kernel
theorem dX2_readDoor_43 : decode cX2_readDoor 43 = .ok (.lstore_n 1, 1) := by decide +kernel
theorem dX2_readDoor_44 : decode cX2_readDoor 44 = .ok (.lload_n 1, 1) := by decide +kernel
theorem dX2_readDoor_45 : decode cX2_readDoor 45 = .ok (.lconst 0, 1) := by decide +kernel
theorem dX2_readDoor_46 : decode cX2_readDoor 46 = .ok (.lcmp, 1) := by decide +kernel
theorem dX2_readDoor_47 : decode cX2_readDoor 47 = .ok (.ifCond .eq 15, 3) := by decide +kernel
theorem dX2_readDoor_50 : decode cX2_readDoor 50 = .ok (.aload_n 0, 1) := by decide +kernel
theorem dX2_readDoor_51 : decode cX2_readDoor 51 = .ok (.getfield 14, 3) := by decide +kernel
theorem dX2_readDoor_54 : decode cX2_readDoor 54 = .ok (.bipush 6, 2) := by decide +kernel
theorem dX2_readDoor_56 : decode cX2_readDoor 56 = .ok (.invokevirtual 83, 3) := by decide +kernel
theorem dX2_readDoor_59 : decode cX2_readDoor 59 = .ok (.ifCond .ne 5, 3) := by decide +kernel
theorem dX2_readDoor_62 : decode cX2_readDoor 62 = .ok (.iconst 0, 1) := by decide +kernel
theorem dX2_readDoor_63 : decode cX2_readDoor 63 = .ok (.ireturn, 1) := by decide +kernel
theorem dX2_readDoor_64 : decode cX2_readDoor 64 = .ok (.aload_n 0, 1) := by decide +kernel
theorem dX2_readDoor_65 : decode cX2_readDoor 65 = .ok (.getfield 14, 3) := by decide +kernel
theorem dX2_readDoor_68 : decode cX2_readDoor 68 = .ok (.aload_n 0, 1) := by decide +kernel
theorem dX2_readDoor_69 : decode cX2_readDoor 69 = .ok (.getfield 23, 3) := by decide +kernel
theorem dX2_readDoor_72 : decode cX2_readDoor 72 = .ok (.iconst (-1), 1) := by decide +kernel
theorem dX2_readDoor_73 : decode cX2_readDoor 73 = .ok (.invokevirtual 108, 3) := by decide +kernel
theorem dX2_readDoor_76 : decode cX2_readDoor 76 = .ok (.istore_n 3, 1) := by decide +kernel
theorem dX2_readDoor_77 : decode cX2_readDoor 77 = .ok (.iload_n 3, 1) := by decide +kernel
theorem dX2_readDoor_78 : decode cX2_readDoor 78 = .ok (.iconst (-1), 1) := by decide +kernel
theorem dX2_readDoor_79 : decode cX2_readDoor 79 = .ok (.if_icmp .eq 15, 3) := by decide +kernel
theorem dX2_readDoor_82 : decode cX2_readDoor 82 = .ok (.aload_n 0, 1) := by decide +kernel
theorem dX2_readDoor_83 : decode cX2_readDoor 83 = .ok (.getfield 14, 3) := by decide +kernel
theorem dX2_readDoor_86 : decode cX2_readDoor 86 = .ok (.bipush 7, 2) := by decide +kernel
theorem dX2_readDoor_88 : decode cX2_readDoor 88 = .ok (.invokevirtual 83, 3) := by decide +kernel
theorem dX2_readDoor_91 : decode cX2_readDoor 91 = .ok (.ifCond .ne 5, 3) := by decide +kernel
theorem dX2_readDoor_94 : decode cX2_readDoor 94 = .ok (.iconst 0, 1) := by decide +kernel
theorem dX2_readDoor_95 : decode cX2_readDoor 95 = .ok (.ireturn, 1) := by decide +kernel
theorem dX2_readDoor_96 : decode cX2_readDoor 96 = .ok (.aload_n 0, 1) := by decide +kernel
theorem dX2_readDoor_97 : decode cX2_readDoor 97 = .ok (.getfield 14, 3) := by decide +kernel
theorem dX2_readDoor_100 : decode cX2_readDoor 100 = .ok (.aload_n 0, 1) := by decide +kernel
theorem dX2_readDoor_101 : decode cX2_readDoor 101 = .ok (.getfield 23, 3) := by decide +kernel
theorem dX2_readDoor_104 : decode cX2_readDoor 104 = .ok (.iload_n 3, 1) := by decide +kernel
theorem dX2_readDoor_105 : decode cX2_readDoor 105 = .ok (.invokevirtual 108, 3) := by decide +kernel
theorem dX2_readDoor_108 : decode cX2_readDoor 108 = .ok (.istore 4, 2) := by decide +kernel
theorem dX2_readDoor_110 : decode cX2_readDoor 110 = .ok (.iload 4, 2) := by decide +kernel
theorem dX2_readDoor_112 : decode cX2_readDoor 112 = .ok (.iconst (-1), 1) := by decide +kernel
theorem dX2_readDoor_113 : decode cX2_readDoor 113 = .ok (.if_icmp .eq 15, 3) := by decide +kernel
theorem dX2_readDoor_116 : decode cX2_readDoor 116 = .ok (.aload_n 0, 1) := by decide +kernel
theorem dX2_readDoor_117 : decode cX2_readDoor 117 = .ok (.getfield 14, 3) := by decide +kernel
theorem dX2_readDoor_120 : decode cX2_readDoor 120 = .ok (.bipush 8, 2) := by decide +kernel
theorem dX2_readDoor_122 : decode cX2_readDoor 122 = .ok (.invokevirtual 83, 3) := by decide +kernel
theorem dX2_readDoor_125 : decode cX2_readDoor 125 = .ok (.ifCond .ne 5, 3) := by decide +kernel
theorem dX2_readDoor_128 : decode cX2_readDoor 128 = .ok (.iconst 0, 1) := by decide +kernel
theorem dX2_readDoor_129 : decode cX2_readDoor 129 = .ok (.ireturn, 1) := by decide +kernel
theorem dX2_readDoor_130 : decode cX2_readDoor 130 = .ok (.aload_n 0, 1) := by decide +kernel
theorem dX2_readDoor_131 : decode cX2_readDoor 131 = .ok (.getfield 14, 3) := by decide +kernel
theorem dX2_readDoor_134 : decode cX2_readDoor 134 = .ok (.iconst 0, 1) := by decide +kernel
theorem dX2_readDoor_135 : decode cX2_readDoor 135 = .ok (.bipush 99, 2) := by decide +kernel
theorem dX2_readDoor_137 : decode cX2_readDoor 137 = .ok (.invokevirtual 86, 3) := by decide +kernel
theorem dX2_readDoor_140 : decode cX2_readDoor 140 = .ok (.istore 5, 2) := by decide +kernel
theorem dX2_readDoor_142 : decode cX2_readDoor 142 = .ok (.iload 5, 2) := by decide +kernel
theorem dX2_readDoor_144 : decode cX2_readDoor 144 = .ok (.iconst (-1), 1) := by decide +kernel
theorem dX2_readDoor_145 : decode cX2_readDoor 145 = .ok (.if_icmp .ne 5, 3) := by decide +kernel
theorem dX2_readDoor_148 : decode cX2_readDoor 148 = .ok (.iconst 0, 1) := by decide +kernel
theorem dX2_readDoor_149 : decode cX2_readDoor 149 = .ok (.ireturn, 1) := by decide +kernel
theorem dX2_readDoor_150 : decode cX2_readDoor 150 = .ok (.aload_n 0, 1) := by decide +kernel
theorem dX2_readDoor_151 : decode cX2_readDoor 151 = .ok (.getfield 14, 3) := by decide +kernel
theorem dX2_readDoor_154 : decode cX2_readDoor 154 = .ok (.bipush 9, 2) := by decide +kernel
theorem dX2_readDoor_156 : decode cX2_readDoor 156 = .ok (.iconst 1, 1) := by decide +kernel
theorem dX2_readDoor_157 : decode cX2_readDoor 157 = .ok (.bipush 9, 2) := by decide +kernel
theorem dX2_readDoor_159 : decode cX2_readDoor 159 = .ok (.iconst 1, 1) := by decide +kernel
theorem dX2_readDoor_160 : decode cX2_readDoor 160 = .ok (.invokevirtual 90, 3) := by decide +kernel
theorem dX2_readDoor_163 : decode cX2_readDoor 163 = .ok (.istore 6, 2) := by decide +kernel
theorem dX2_readDoor_165 : decode cX2_readDoor 165 = .ok (.iload 6, 2) := by decide +kernel
theorem dX2_readDoor_167 : decode cX2_readDoor 167 = .ok (.iconst (-1), 1) := by decide +kernel
theorem dX2_readDoor_168 : decode cX2_readDoor 168 = .ok (.if_icmp .ne 5, 3) := by decide +kernel
theorem dX2_readDoor_171 : decode cX2_readDoor 171 = .ok (.iconst 0, 1) := by decide +kernel
theorem dX2_readDoor_172 : decode cX2_readDoor 172 = .ok (.ireturn, 1) := by decide +kernel
theorem dX2_readDoor_173 : decode cX2_readDoor 173 = .ok (.aload_n 0, 1) := by decide +kernel
theorem dX2_readDoor_174 : decode cX2_readDoor 174 = .ok (.getfield 14, 3) := by decide +kernel
theorem dX2_readDoor_177 : decode cX2_readDoor 177 = .ok (.bipush 10, 2) := by decide +kernel
theorem dX2_readDoor_179 : decode cX2_readDoor 179 = .ok (.iconst 0, 1) := by decide +kernel
theorem dX2_readDoor_180 : decode cX2_readDoor 180 = .ok (.bipush 9, 2) := by decide +kernel
theorem dX2_readDoor_182 : decode cX2_readDoor 182 = .ok (.iconst 0, 1) := by decide +kernel
theorem dX2_readDoor_183 : decode cX2_readDoor 183 = .ok (.invokevirtual 90, 3) := by decide +kernel
theorem dX2_readDoor_186 : decode cX2_readDoor 186 = .ok (.istore 7, 2) := by decide +kernel
theorem dX2_readDoor_188 : decode cX2_readDoor 188 = .ok (.iload 7, 2) := by decide +kernel
theorem dX2_readDoor_190 : decode cX2_readDoor 190 = .ok (.iconst (-1), 1) := by decide +kernel
theorem dX2_readDoor_191 : decode cX2_readDoor 191 = .ok (.if_icmp .eq 13, 3) := by decide +kernel
theorem dX2_readDoor_194 : decode cX2_readDoor 194 = .ok (.aload_n 0, 1) := by decide +kernel
theorem dX2_readDoor_195 : decode cX2_readDoor 195 = .ok (.getfield 14, 3) := by decide +kernel
theorem dX2_readDoor_198 : decode cX2_readDoor 198 = .ok (.invokevirtual 94, 3) := by decide +kernel
theorem dX2_readDoor_201 : decode cX2_readDoor 201 = .ok (.ifCond .ne 5, 3) := by decide +kernel
theorem dX2_readDoor_204 : decode cX2_readDoor 204 = .ok (.iconst 0, 1) := by decide +kernel
theorem dX2_readDoor_205 : decode cX2_readDoor 205 = .ok (.ireturn, 1) := by decide +kernel
theorem dX2_readDoor_206 : decode cX2_readDoor 206 = .ok (.aload_n 0, 1) := by decide +kernel
theorem dX2_readDoor_207 : decode cX2_readDoor 207 = .ok (.getfield 23, 3) := by decide +kernel
theorem dX2_readDoor_210 : decode cX2_readDoor 210 = .ok (.getfield 101, 3) := by decide +kernel
theorem dX2_readDoor_213 : decode cX2_readDoor 213 = .ok (.lload_n 1, 1) := by decide +kernel
theorem dX2_readDoor_214 : decode cX2_readDoor 214 = .ok (.iload_n 3, 1) := by decide +kernel
theorem dX2_readDoor_215 : decode cX2_readDoor 215 = .ok (.iload 4, 2) := by decide +kernel
theorem dX2_readDoor_217 : decode cX2_readDoor 217 = .ok (.iload 5, 2) := by decide +kernel
theorem dX2_readDoor_219 : decode cX2_readDoor 219 = .ok (.iload 6, 2) := by decide +kernel
theorem dX2_readDoor_221 : decode cX2_readDoor 221 = .ok (.iload 7, 2) := by decide +kernel
theorem dX2_readDoor_223 : decode cX2_readDoor 223 = .ok (.invokevirtual 112, 3) := by decide +kernel
theorem dX2_readDoor_226 : decode cX2_readDoor 226 = .ok (.iconst 1, 1) := by decide +kernel
theorem dX2_readDoor_227 : decode cX2_readDoor 227 = .ok (.ireturn, 1) := by decide +kernel
theorem dX2_readTide_0 : decode cX2_readTide 0 = .ok (.aload_n 0, 1) := by decide +kernel
theorem dX2_readTide_1 : decode cX2_readTide 1 = .ok (.getfield 14, 3) := by decide +kernel
theorem dX2_readTide_4 : decode cX2_readTide 4 = .ok (.invokevirtual 76, 3) := by decide +kernel
theorem dX2_readTide_7 : decode cX2_readTide 7 = .ok (.aload_n 0, 1) := by decide +kernel
theorem dX2_readTide_8 : decode cX2_readTide 8 = .ok (.getfield 14, 3) := by decide +kernel
theorem dX2_readTide_11 : decode cX2_readTide 11 = .ok (.iconst 0, 1) := by decide +kernel
theorem dX2_readTide_12 : decode cX2_readTide 12 = .ok (.bipush 11, 2) := by decide +kernel
theorem dX2_readTide_14 : decode cX2_readTide 14 = .ok (.invokevirtual 86, 3) := by decide +kernel
theorem dX2_readTide_17 : decode cX2_readTide 17 = .ok (.istore_n 1, 1) := by decide +kernel
theorem dX2_readTide_18 : decode cX2_readTide 18 = .ok (.iload_n 1, 1) := by decide +kernel
theorem dX2_readTide_19 : decode cX2_readTide 19 = .ok (.iconst (-1), 1) := by decide +kernel
theorem dX2_readTide_20 : decode cX2_readTide 20 = .ok (.if_icmp .ne 5, 3) := by decide +kernel
theorem dX2_readTide_23 : decode cX2_readTide 23 = .ok (.iconst 0, 1) := by decide +kernel
theorem dX2_readTide_24 : decode cX2_readTide 24 = .ok (.ireturn, 1) := by decide +kernel
theorem dX2_readTide_25 : decode cX2_readTide 25 = .ok (.aload_n 0, 1) := by decide +kernel
theorem dX2_readTide_26 : decode cX2_readTide 26 = .ok (.getfield 14, 3) := by decide +kernel
theorem dX2_readTide_29 : decode cX2_readTide 29 = .ok (.iconst 0, 1) := by decide +kernel
theorem dX2_readTide_30 : decode cX2_readTide 30 = .ok (.bipush 99, 2) := by decide +kernel
theorem dX2_readTide_32 : decode cX2_readTide 32 = .ok (.invokevirtual 86, 3) := by decide +kernel
theorem dX2_readTide_35 : decode cX2_readTide 35 = .ok (.istore_n 2, 1) := by decide +kernel
theorem dX2_readTide_36 : decode cX2_readTide 36 = .ok (.iload_n 2, 1) := by decide +kernel
theorem dX2_readTide_37 : decode cX2_readTide 37 = .ok (.iconst (-1), 1) := by decide +kernel
theorem dX2_readTide_38 : decode cX2_readTide 38 = .ok (.if_icmp .eq 13, 3) := by decide +kernel
theorem dX2_readTide_41 : decode cX2_readTide 41 = .ok (.aload_n 0, 1) := by decide +kernel
theorem dX2_readTide_42 : decode cX2_readTide 42 = .ok (.getfield 14, 3) := by decide +kernel
theorem dX2_readTide_45 : decode cX2_readTide 45 = .ok (.invokevirtual 94, 3) := by decide +kernel
theorem dX2_readTide_48 : decode cX2_readTide 48 = .ok (.ifCond .ne 5, 3) := by decide +kernel
theorem dX2_readTide_51 : decode cX2_readTide 51 = .ok (.iconst 0, 1) := by decide +kernel
theorem dX2_readTide_52 : decode cX2_readTide 52 = .ok (.ireturn, 1) := by decide +kernel
theorem dX2_readTide_53 : decode cX2_readTide 53 = .ok (.aload_n 0, 1) := by decide +kernel
theorem dX2_readTide_54 : decode cX2_readTide 54 = .ok (.getfield 23, 3) := by decide +kernel
theorem dX2_readTide_57 : decode cX2_readTide 57 = .ok (.getfield 115, 3) := by decide +kernel
theorem dX2_readTide_60 : decode cX2_readTide 60 = .ok (.iload_n 1, 1) := by decide +kernel
theorem dX2_readTide_61 : decode cX2_readTide 61 = .ok (.iload_n 2, 1) := by decide +kernel
theorem dX2_readTide_62 : decode cX2_readTide 62 = .ok (.iastore, 1) := by decide +kernel
theorem dX2_readTide_63 : decode cX2_readTide 63 = .ok (.iconst 1, 1) := by decide +kernel
theorem dX2_readTide_64 : decode cX2_readTide 64 = .ok (.ireturn, 1) := by decide +kernel
theorem dX2_readPump_0 : decode cX2_readPump 0 = .ok (.aload_n 0, 1) := by decide +kernel
theorem dX2_readPump_1 : decode cX2_readPump 1 = .ok (.getfield 14, 3) := by decide +kernel
theorem dX2_readPump_4 : decode cX2_readPump 4 = .ok (.invokevirtual 76, 3) := by decide +kernel
theorem dX2_readPump_7 : decode cX2_readPump 7 = .ok (.aload_n 0, 1) := by decide +kernel
theorem dX2_readPump_8 : decode cX2_readPump 8 = .ok (.getfield 14, 3) := by decide +kernel
theorem dX2_readPump_11 : decode cX2_readPump 11 = .ok (.aload_n 0, 1) := by decide +kernel
theorem dX2_readPump_12 : decode cX2_readPump 12 = .ok (.getfield 23, 3) := by decide +kernel
theorem dX2_readPump_15 : decode cX2_readPump 15 = .ok (.invokevirtual 119, 3) := by decide +kernel
theorem dX2_readPump_18 : decode cX2_readPump 18 = .ok (.istore_n 1, 1) := by decide +kernel
theorem dX2_readPump_19 : decode cX2_readPump 19 = .ok (.iload_n 1, 1) := by decide +kernel
theorem dX2_readPump_20 : decode cX2_readPump 20 = .ok (.iconst (-1), 1) := by decide +kernel
theorem dX2_readPump_21 : decode cX2_readPump 21 = .ok (.if_icmp .ne 5, 3) := by decide +kernel
theorem dX2_readPump_24 : decode cX2_readPump 24 = .ok (.iconst 0, 1) := by decide +kernel
theorem dX2_readPump_25 : decode cX2_readPump 25 = .ok (.ireturn, 1) := by decide +kernel
theorem dX2_readPump_26 : decode cX2_readPump 26 = .ok (.aload_n 0, 1) := by decide +kernel
theorem dX2_readPump_27 : decode cX2_readPump 27 = .ok (.getfield 14, 3) := by decide +kernel
theorem dX2_readPump_30 : decode cX2_readPump 30 = .ok (.iconst 0, 1) := by decide +kernel
theorem dX2_readPump_31 : decode cX2_readPump 31 = .ok (.bipush 99, 2) := by decide +kernel
theorem dX2_readPump_33 : decode cX2_readPump 33 = .ok (.invokevirtual 86, 3) := by decide +kernel
theorem dX2_readPump_36 : decode cX2_readPump 36 = .ok (.istore_n 2, 1) := by decide +kernel
theorem dX2_readPump_37 : decode cX2_readPump 37 = .ok (.iload_n 2, 1) := by decide +kernel
theorem dX2_readPump_38 : decode cX2_readPump 38 = .ok (.iconst (-1), 1) := by decide +kernel
theorem dX2_readPump_39 : decode cX2_readPump 39 = .ok (.if_icmp .eq 13, 3) := by decide +kernel
theorem dX2_readPump_42 : decode cX2_readPump 42 = .ok (.aload_n 0, 1) := by decide +kernel
theorem dX2_readPump_43 : decode cX2_readPump 43 = .ok (.getfield 14, 3) := by decide +kernel
theorem dX2_readPump_46 : decode cX2_readPump 46 = .ok (.invokevirtual 94, 3) := by decide +kernel
theorem dX2_readPump_49 : decode cX2_readPump 49 = .ok (.ifCond .ne 5, 3) := by decide +kernel
theorem dX2_readPump_52 : decode cX2_readPump 52 = .ok (.iconst 0, 1) := by decide +kernel
theorem dX2_readPump_53 : decode cX2_readPump 53 = .ok (.ireturn, 1) := by decide +kernel
theorem dX2_readPump_54 : decode cX2_readPump 54 = .ok (.aload_n 0, 1) := by decide +kernel
theorem dX2_readPump_55 : decode cX2_readPump 55 = .ok (.getfield 23, 3) := by decide +kernel
theorem dX2_readPump_58 : decode cX2_readPump 58 = .ok (.getfield 67, 3) := by decide +kernel
theorem dX2_readPump_61 : decode cX2_readPump 61 = .ok (.getfield 123, 3) := by decide +kernel
theorem dX2_readPump_64 : decode cX2_readPump 64 = .ok (.iload_n 1, 1) := by decide +kernel
theorem dX2_readPump_65 : decode cX2_readPump 65 = .ok (.iload_n 2, 1) := by decide +kernel
theorem dX2_readPump_66 : decode cX2_readPump 66 = .ok (.iastore, 1) := by decide +kernel
theorem dX2_readPump_67 : decode cX2_readPump 67 = .ok (.iconst 1, 1) := by decide +kernel
theorem dX2_readPump_68 : decode cX2_readPump 68 = .ok (.ireturn, 1) := by decide +kernel
theorem dX2_readRota_0 : decode cX2_readRota 0 = .ok (.aload_n 0, 1) := by decide +kernel
theorem dX2_readRota_1 : decode cX2_readRota 1 = .ok (.getfield 14, 3) := by decide +kernel
theorem dX2_readRota_4 : decode cX2_readRota 4 = .ok (.invokevirtual 76, 3) := by decide +kernel
theorem dX2_readRota_7 : decode cX2_readRota 7 = .ok (.aload_n 0, 1) := by decide +kernel
theorem dX2_readRota_8 : decode cX2_readRota 8 = .ok (.getfield 14, 3) := by decide +kernel
theorem dX2_readRota_11 : decode cX2_readRota 11 = .ok (.iconst 0, 1) := by decide +kernel
theorem dX2_readRota_12 : decode cX2_readRota 12 = .ok (.bipush 11, 2) := by decide +kernel
theorem dX2_readRota_14 : decode cX2_readRota 14 = .ok (.invokevirtual 86, 3) := by decide +kernel
theorem dX2_readRota_17 : decode cX2_readRota 17 = .ok (.istore_n 1, 1) := by decide +kernel
theorem dX2_readRota_18 : decode cX2_readRota 18 = .ok (.iload_n 1, 1) := by decide +kernel
theorem dX2_readRota_19 : decode cX2_readRota 19 = .ok (.iconst (-1), 1) := by decide +kernel
theorem dX2_readRota_20 : decode cX2_readRota 20 = .ok (.if_icmp .ne 5, 3) := by decide +kernel
theorem dX2_readRota_23 : decode cX2_readRota 23 = .ok (.iconst 0, 1) := by decide +kernel
theorem dX2_readRota_24 : decode cX2_readRota 24 = .ok (.ireturn, 1) := by decide +kernel
theorem dX2_readRota_25 : decode cX2_readRota 25 = .ok (.aload_n 0, 1) := by decide +kernel
theorem dX2_readRota_26 : decode cX2_readRota 26 = .ok (.getfield 14, 3) := by decide +kernel
theorem dX2_readRota_29 : decode cX2_readRota 29 = .ok (.aload_n 0, 1) := by decide +kernel
theorem dX2_readRota_30 : decode cX2_readRota 30 = .ok (.getfield 23, 3) := by decide +kernel
theorem dX2_readRota_33 : decode cX2_readRota 33 = .ok (.invokevirtual 126, 3) := by decide +kernel
theorem dX2_readRota_36 : decode cX2_readRota 36 = .ok (.istore_n 2, 1) := by decide +kernel
theorem dX2_readRota_37 : decode cX2_readRota 37 = .ok (.iload_n 2, 1) := by decide +kernel
theorem dX2_readRota_38 : decode cX2_readRota 38 = .ok (.iconst (-1), 1) := by decide +kernel
theorem dX2_readRota_39 : decode cX2_readRota 39 = .ok (.if_icmp .eq 13, 3) := by decide +kernel
theorem dX2_readRota_42 : decode cX2_readRota 42 = .ok (.aload_n 0, 1) := by decide +kernel
theorem dX2_readRota_43 : decode cX2_readRota 43 = .ok (.getfield 14, 3) := by decide +kernel
theorem dX2_readRota_46 : decode cX2_readRota 46 = .ok (.invokevirtual 94, 3) := by decide +kernel
theorem dX2_readRota_49 : decode cX2_readRota 49 = .ok (.ifCond .ne 5, 3) := by decide +kernel
theorem dX2_readRota_52 : decode cX2_readRota 52 = .ok (.iconst 0, 1) := by decide +kernel
theorem dX2_readRota_53 : decode cX2_readRota 53 = .ok (.ireturn, 1) := by decide +kernel
theorem dX2_readRota_54 : decode cX2_readRota 54 = .ok (.aload_n 0, 1) := by decide +kernel
theorem dX2_readRota_55 : decode cX2_readRota 55 = .ok (.getfield 23, 3) := by decide +kernel
theorem dX2_readRota_58 : decode cX2_readRota 58 = .ok (.getfield 101, 3) := by decide +kernel
theorem dX2_readRota_61 : decode cX2_readRota 61 = .ok (.getfield 129, 3) := by decide +kernel
theorem dX2_readRota_64 : decode cX2_readRota 64 = .ok (.iload_n 1, 1) := by decide +kernel
theorem dX2_readRota_65 : decode cX2_readRota 65 = .ok (.dup2, 1) := by decide +kernel
theorem dX2_readRota_66 : decode cX2_readRota 66 = .ok (.iaload, 1) := by decide +kernel
theorem dX2_readRota_67 : decode cX2_readRota 67 = .ok (.iconst 1, 1) := by decide +kernel
theorem dX2_readRota_68 : decode cX2_readRota 68 = .ok (.iload_n 2, 1) := by decide +kernel
theorem dX2_readRota_69 : decode cX2_readRota 69 = .ok (.ishl, 1) := by decide +kernel
theorem dX2_readRota_70 : decode cX2_readRota 70 = .ok (.ior, 1) := by decide +kernel
theorem dX2_readRota_71 : decode cX2_readRota 71 = .ok (.iastore, 1) := by decide +kernel
theorem dX2_readRota_72 : decode cX2_readRota 72 = .ok (.iconst 1, 1) := by decide +kernel
theorem dX2_readRota_73 : decode cX2_readRota 73 = .ok (.ireturn, 1) := by decide +kernel
theorem dX2_readErrand_0 : decode cX2_readErrand 0 = .ok (.aload_n 0, 1) := by decide +kernel
theorem dX2_readErrand_1 : decode cX2_readErrand 1 = .ok (.getfield 23, 3) := by decide +kernel
theorem dX2_readErrand_4 : decode cX2_readErrand 4 = .ok (.getfield 132, 3) := by decide +kernel
theorem dX2_readErrand_7 : decode cX2_readErrand 7 = .ok (.iconst 4, 1) := by decide +kernel
theorem dX2_readErrand_8 : decode cX2_readErrand 8 = .ok (.if_icmp .lt 13, 3) := by decide +kernel
theorem dX2_readErrand_11 : decode cX2_readErrand 11 = .ok (.aload_n 0, 1) := by decide +kernel
theorem dX2_readErrand_12 : decode cX2_readErrand 12 = .ok (.getfield 14, 3) := by decide +kernel
theorem dX2_readErrand_15 : decode cX2_readErrand 15 = .ok (.bipush 6, 2) := by decide +kernel
theorem dX2_readErrand_17 : decode cX2_readErrand 17 = .ok (.invokevirtual 63, 3) := by decide +kernel
theorem dX2_readErrand_20 : decode cX2_readErrand 20 = .ok (.ireturn, 1) := by decide +kernel
theorem dX2_readErrand_21 : decode cX2_readErrand 21 = .ok (.aload_n 0, 1) := by decide +kernel
theorem dX2_readErrand_22 : decode cX2_readErrand 22 = .ok (.getfield 14, 3) := by decide +kernel
theorem dX2_readErrand_25 : decode cX2_readErrand 25 = .ok (.invokevirtual 76, 3) := by decide +kernel
theorem dX2_readErrand_28 : decode cX2_readErrand 28 = .ok (.aload_n 0, 1) := by decide +kernel
theorem dX2_readErrand_29 : decode cX2_readErrand 29 = .ok (.getfield 14, 3) := by decide +kernel
theorem dX2_readErrand_32 : decode cX2_readErrand 32 = .ok (.aload_n 0, 1) := by decide +kernel
theorem dX2_readErrand_33 : decode cX2_readErrand 33 = .ok (.getfield 23, 3) := by decide +kernel
theorem dX2_readErrand_36 : decode cX2_readErrand 36 = .ok (.invokevirtual 79, 3) := by decide +kernel
theorem dX2_readErrand_39 : decode cX2_readErrand 39 = .ok (.lstore_n 1, 1) := by decide +kernel
theorem dX2_readErrand_40 : decode cX2_readErrand 40 = .ok (.lload_n 1, 1) := by decide +kernel
theorem dX2_readErrand_41 : decode cX2_readErrand 41 = .ok (.lconst 0, 1) := by decide +kernel
theorem dX2_readErrand_42 : decode cX2_readErrand 42 = .ok (.lcmp, 1) := by decide +kernel
theorem dX2_readErrand_43 : decode cX2_readErrand 43 = .ok (.ifCond .eq 15, 3) := by decide +kernel
theorem dX2_readErrand_46 : decode cX2_readErrand 46 = .ok (.aload_n 0, 1) := by decide +kernel
theorem dX2_readErrand_47 : decode cX2_readErrand 47 = .ok (.getfield 14, 3) := by decide +kernel
theorem dX2_readErrand_50 : decode cX2_readErrand 50 = .ok (.bipush 15, 2) := by decide +kernel
theorem dX2_readErrand_52 : decode cX2_readErrand 52 = .ok (.invokevirtual 83, 3) := by decide +kernel
theorem dX2_readErrand_55 : decode cX2_readErrand 55 = .ok (.ifCond .ne 5, 3) := by decide +kernel
theorem dX2_readErrand_58 : decode cX2_readErrand 58 = .ok (.iconst 0, 1) := by decide +kernel
theorem dX2_readErrand_59 : decode cX2_readErrand 59 = .ok (.ireturn, 1) := by decide +kernel
theorem dX2_readErrand_60 : decode cX2_readErrand 60 = .ok (.aload_n 0, 1) := by decide +kernel
theorem dX2_readErrand_61 : decode cX2_readErrand 61 = .ok (.getfield 14, 3) := by decide +kernel
theorem dX2_readErrand_64 : decode cX2_readErrand 64 = .ok (.aload_n 0, 1) := by decide +kernel
theorem dX2_readErrand_65 : decode cX2_readErrand 65 = .ok (.getfield 23, 3) := by decide +kernel
theorem dX2_readErrand_68 : decode cX2_readErrand 68 = .ok (.invokevirtual 126, 3) := by decide +kernel
theorem dX2_readErrand_71 : decode cX2_readErrand 71 = .ok (.istore_n 3, 1) := by decide +kernel
theorem dX2_readErrand_72 : decode cX2_readErrand 72 = .ok (.iload_n 3, 1) := by decide +kernel
theorem dX2_readErrand_73 : decode cX2_readErrand 73 = .ok (.iconst (-1), 1) := by decide +kernel
theorem dX2_readErrand_74 : decode cX2_readErrand 74 = .ok (.if_icmp .eq 15, 3) := by decide +kernel
theorem dX2_readErrand_77 : decode cX2_readErrand 77 = .ok (.aload_n 0, 1) := by decide +kernel
theorem dX2_readErrand_78 : decode cX2_readErrand 78 = .ok (.getfield 14, 3) := by decide +kernel
theorem dX2_readErrand_81 : decode cX2_readErrand 81 = .ok (.bipush 6, 2) := by decide +kernel
theorem dX2_readErrand_83 : decode cX2_readErrand 83 = .ok (.invokevirtual 83, 3) := by decide +kernel
theorem dX2_readErrand_86 : decode cX2_readErrand 86 = .ok (.ifCond .ne 5, 3) := by decide +kernel
theorem dX2_readErrand_89 : decode cX2_readErrand 89 = .ok (.iconst 0, 1) := by decide +kernel
theorem dX2_readErrand_90 : decode cX2_readErrand 90 = .ok (.ireturn, 1) := by decide +kernel
theorem dX2_readErrand_91 : decode cX2_readErrand 91 = .ok (.aload_n 0, 1) := by decide +kernel
theorem dX2_readErrand_92 : decode cX2_readErrand 92 = .ok (.getfield 14, 3) := by decide +kernel
theorem dX2_readErrand_95 : decode cX2_readErrand 95 = .ok (.iconst 0, 1) := by decide +kernel
theorem dX2_readErrand_96 : decode cX2_readErrand 96 = .ok (.bipush 11, 2) := by decide +kernel
theorem dX2_readErrand_98 : decode cX2_readErrand 98 = .ok (.invokevirtual 86, 3) := by decide +kernel
theorem dX2_readErrand_101 : decode cX2_readErrand 101 = .ok (.istore 4, 2) := by decide +kernel
theorem dX2_readErrand_103 : decode cX2_readErrand 103 = .ok (.iload 4, 2) := by decide +kernel
theorem dX2_readErrand_105 : decode cX2_readErrand 105 = .ok (.iconst (-1), 1) := by decide +kernel
theorem dX2_readErrand_106 : decode cX2_readErrand 106 = .ok (.if_icmp .eq 15, 3) := by decide +kernel
theorem dX2_readErrand_109 : decode cX2_readErrand 109 = .ok (.aload_n 0, 1) := by decide +kernel
theorem dX2_readErrand_110 : decode cX2_readErrand 110 = .ok (.getfield 14, 3) := by decide +kernel
theorem dX2_readErrand_113 : decode cX2_readErrand 113 = .ok (.bipush 7, 2) := by decide +kernel
theorem dX2_readErrand_115 : decode cX2_readErrand 115 = .ok (.invokevirtual 83, 3) := by decide +kernel
theorem dX2_readErrand_118 : decode cX2_readErrand 118 = .ok (.ifCond .ne 5, 3) := by decide +kernel
theorem dX2_readErrand_121 : decode cX2_readErrand 121 = .ok (.iconst 0, 1) := by decide +kernel
theorem dX2_readErrand_122 : decode cX2_readErrand 122 = .ok (.ireturn, 1) := by decide +kernel
theorem dX2_readErrand_123 : decode cX2_readErrand 123 = .ok (.aload_n 0, 1) := by decide +kernel
theorem dX2_readErrand_124 : decode cX2_readErrand 124 = .ok (.getfield 14, 3) := by decide +kernel
theorem dX2_readErrand_127 : decode cX2_readErrand 127 = .ok (.iload 4, 2) := by decide +kernel
theorem dX2_readErrand_129 : decode cX2_readErrand 129 = .ok (.bipush 11, 2) := by decide +kernel
theorem dX2_readErrand_131 : decode cX2_readErrand 131 = .ok (.invokevirtual 86, 3) := by decide +kernel
theorem dX2_readErrand_134 : decode cX2_readErrand 134 = .ok (.istore 5, 2) := by decide +kernel
theorem dX2_readErrand_136 : decode cX2_readErrand 136 = .ok (.iload 5, 2) := by decide +kernel
theorem dX2_readErrand_138 : decode cX2_readErrand 138 = .ok (.iconst (-1), 1) := by decide +kernel
theorem dX2_readErrand_139 : decode cX2_readErrand 139 = .ok (.if_icmp .eq 13, 3) := by decide +kernel
theorem dX2_readErrand_142 : decode cX2_readErrand 142 = .ok (.aload_n 0, 1) := by decide +kernel
theorem dX2_readErrand_143 : decode cX2_readErrand 143 = .ok (.getfield 14, 3) := by decide +kernel
theorem dX2_readErrand_146 : decode cX2_readErrand 146 = .ok (.invokevirtual 94, 3) := by decide +kernel
theorem dX2_readErrand_149 : decode cX2_readErrand 149 = .ok (.ifCond .ne 5, 3) := by decide +kernel
theorem dX2_readErrand_152 : decode cX2_readErrand 152 = .ok (.iconst 0, 1) := by decide +kernel
theorem dX2_readErrand_153 : decode cX2_readErrand 153 = .ok (.ireturn, 1) := by decide +kernel
theorem dX2_readErrand_154 : decode cX2_readErrand 154 = .ok (.aload_n 0, 1) := by decide +kernel
theorem dX2_readErrand_155 : decode cX2_readErrand 155 = .ok (.getfield 23, 3) := by decide +kernel
theorem dX2_readErrand_158 : decode cX2_readErrand 158 = .ok (.lload_n 1, 1) := by decide +kernel
theorem dX2_readErrand_159 : decode cX2_readErrand 159 = .ok (.iload_n 3, 1) := by decide +kernel
theorem dX2_readErrand_160 : decode cX2_readErrand 160 = .ok (.iload 4, 2) := by decide +kernel
theorem dX2_readErrand_162 : decode cX2_readErrand 162 = .ok (.iload 5, 2) := by decide +kernel
theorem dX2_readErrand_164 : decode cX2_readErrand 164 = .ok (.invokevirtual 135, 3) := by decide +kernel
theorem dX2_readErrand_167 : decode cX2_readErrand 167 = .ok (.iconst 1, 1) := by decide +kernel
theorem dX2_readErrand_168 : decode cX2_readErrand 168 = .ok (.ireturn, 1) := by decide +kernel
theorem dX3_init_0 : decode cX3_init 0 = .ok (.aload_n 0, 1) := by decide +kernel
theorem dX3_init_1 : decode cX3_init 1 = .ok (.invokespecial 3, 3) := by decide +kernel
theorem dX3_init_4 : decode cX3_init 4 = .ok (.aload_n 0, 1) := by decide +kernel
theorem dX3_init_5 : decode cX3_init 5 = .ok (.bipush 60, 2) := by decide +kernel
theorem dX3_init_7 : decode cX3_init 7 = .ok (.newarray .int, 2) := by decide +kernel
theorem dX3_init_9 : decode cX3_init 9 = .ok (.putfield 11, 3) := by decide +kernel
theorem dX3_init_12 : decode cX3_init 12 = .ok (.return_, 1) := by decide +kernel
theorem dX3_pass_0 : decode cX3_pass 0 = .ok (.aload_n 0, 1) := by decide +kernel
theorem dX3_pass_1 : decode cX3_pass 1 = .ok (.iconst 1, 1) := by decide +kernel
theorem dX3_pass_2 : decode cX3_pass 2 = .ok (.putfield 17, 3) := by decide +kernel
theorem dX3_pass_5 : decode cX3_pass 5 = .ok (.aload_n 0, 1) := by decide +kernel
theorem dX3_pass_6 : decode cX3_pass 6 = .ok (.iconst 0, 1) := by decide +kernel
theorem dX3_pass_7 : decode cX3_pass 7 = .ok (.putfield 21, 3) := by decide +kernel
theorem dX3_pass_10 : decode cX3_pass 10 = .ok (.aload_n 0, 1) := by decide +kernel
theorem dX3_pass_11 : decode cX3_pass 11 = .ok (.iconst 0, 1) := by decide +kernel
theorem dX3_pass_12 : decode cX3_pass 12 = .ok (.putfield 25, 3) := by decide +kernel
theorem dX3_pass_15 : decode cX3_pass 15 = .ok (.aload_n 0, 1) := by decide +kernel
theorem dX3_pass_16 : decode cX3_pass 16 = .ok (.iconst 0, 1) := by decide +kernel
theorem dX3_pass_17 : decode cX3_pass 17 = .ok (.putfield 28, 3) := by decide +kernel
theorem dX3_pass_20 : decode cX3_pass 20 = .ok (.aload_n 0, 1) := by decide +kernel
theorem dX3_pass_21 : decode cX3_pass 21 = .ok (.iconst 0, 1) := by decide +kernel
theorem dX3_pass_22 : decode cX3_pass 22 = .ok (.putfield 31, 3) := by decide +kernel
theorem dX3_pass_25 : decode cX3_pass 25 = .ok (.aload_n 0, 1) := by decide +kernel
theorem dX3_pass_26 : decode cX3_pass 26 = .ok (.iconst 0, 1) := by decide +kernel
theorem dX3_pass_27 : decode cX3_pass 27 = .ok (.putfield 34, 3) := by decide +kernel
theorem dX3_pass_30 : decode cX3_pass 30 = .ok (.aload_n 0, 1) := by decide +kernel
theorem dX3_pass_31 : decode cX3_pass 31 = .ok (.iconst 0, 1) := by decide +kernel
theorem dX3_pass_32 : decode cX3_pass 32 = .ok (.putfield 37, 3) := by decide +kernel
theorem dX3_pass_35 : decode cX3_pass 35 = .ok (.aload_n 0, 1) := by decide +kernel
theorem dX3_pass_36 : decode cX3_pass 36 = .ok (.iload_n 3, 1) := by decide +kernel
theorem dX3_pass_37 : decode cX3_pass 37 = .ok (.putfield 40, 3) := by decide +kernel
theorem dX3_pass_40 : decode cX3_pass 40 = .ok (.iconst 0, 1) := by decide +kernel
theorem dX3_pass_41 : decode cX3_pass 41 = .ok (.istore 4, 2) := by decide +kernel
theorem dX3_pass_43 : decode cX3_pass 43 = .ok (.iconst 0, 1) := by decide +kernel
theorem dX3_pass_44 : decode cX3_pass 44 = .ok (.istore 5, 2) := by decide +kernel
theorem dX3_pass_46 : decode cX3_pass 46 = .ok (.iload 5, 2) := by decide +kernel
theorem dX3_pass_48 : decode cX3_pass 48 = .ok (.ldc 43, 2) := by decide +kernel
theorem dX3_pass_50 : decode cX3_pass 50 = .ok (.if_icmp .ge 88, 3) := by decide +kernel
theorem dX3_pass_53 : decode cX3_pass 53 = .ok (.iload 4, 2) := by decide +kernel
theorem dX3_pass_55 : decode cX3_pass 55 = .ok (.ifCond .lt 83, 3) := by decide +kernel
theorem dX3_pass_58 : decode cX3_pass 58 = .ok (.iload 4, 2) := by decide +kernel
theorem dX3_pass_60 : decode cX3_pass 60 = .ok (.aload_n 1, 1) := by decide +kernel
theorem dX3_pass_61 : decode cX3_pass 61 = .ok (.getfield 44, 3) := by decide +kernel
theorem dX3_pass_64 : decode cX3_pass 64 = .ok (.if_icmp .ge 74, 3) := by decide +kernel
theorem dX3_pass_67 : decode cX3_pass 67 = .ok (.aload_n 1, 1) := by decide +kernel
theorem dX3_pass_68 : decode cX3_pass 68 = .ok (.getfield 47, 3) := by decide +kernel
theorem dX3_pass_71 : decode cX3_pass 71 = .ok (.iload 4, 2) := by decide +kernel
theorem dX3_pass_73 : decode cX3_pass 73 = .ok (.iaload, 1) := by decide +kernel
theorem dX3_pass_74 : decode cX3_pass 74 = .ok (.bipush 12, 2) := by decide +kernel
theorem dX3_pass_76 : decode cX3_pass 76 = .ok (.if_icmp .ne 15, 3) := by decide +kernel
theorem dX3_pass_79 : decode cX3_pass 79 = .ok (.aload_n 0, 1) := by decide +kernel
theorem dX3_pass_80 : decode cX3_pass 80 = .ok (.aload_n 1, 1) := by decide +kernel
theorem dX3_pass_81 : decode cX3_pass 81 = .ok (.iload 4, 2) := by decide +kernel
theorem dX3_pass_83 : decode cX3_pass 83 = .ok (.invokevirtual 50, 3) := by decide +kernel
theorem dX3_pass_86 : decode cX3_pass 86 = .ok (.istore 4, 2) := by decide +kernel
theorem dX3_pass_88 : decode cX3_pass 88 = .ok (.goto 44, 3) := by decide +kernel
theorem dX3_pass_91 : decode cX3_pass 91 = .ok (.aload_n 0, 1) := by decide +kernel
theorem dX3_pass_92 : decode cX3_pass 92 = .ok (.getfield 21, 3) := by decide +kernel
theorem dX3_pass_95 : decode cX3_pass 95 = .ok (.sipush 300, 3) := by decide +kernel
theorem dX3_pass_98 : decode cX3_pass 98 = .ok (.if_icmp .lt 14, 3) := by decide +kernel
theorem dX3_pass_101 : decode cX3_pass 101 = .ok (.aload_n 0, 1) := by decide +kernel
theorem dX3_pass_102 : decode cX3_pass 102 = .ok (.iconst 1, 1) := by decide +kernel
theorem dX3_pass_103 : decode cX3_pass 103 = .ok (.putfield 37, 3) := by decide +kernel
theorem dX3_pass_106 : decode cX3_pass 106 = .ok (.iconst (-1), 1) := by decide +kernel
theorem dX3_pass_107 : decode cX3_pass 107 = .ok (.istore 4, 2) := by decide +kernel
theorem dX3_pass_109 : decode cX3_pass 109 = .ok (.goto 23, 3) := by decide +kernel
theorem dX3_pass_112 : decode cX3_pass 112 = .ok (.aload_n 0, 1) := by decide +kernel
theorem dX3_pass_113 : decode cX3_pass 113 = .ok (.dup, 1) := by decide +kernel
theorem dX3_pass_114 : decode cX3_pass 114 = .ok (.getfield 21, 3) := by decide +kernel
theorem dX3_pass_117 : decode cX3_pass 117 = .ok (.iconst 1, 1) := by decide +kernel
theorem dX3_pass_118 : decode cX3_pass 118 = .ok (.iadd, 1) := by decide +kernel
theorem dX3_pass_119 : decode cX3_pass 119 = .ok (.putfield 21, 3) := by decide +kernel
theorem dX3_pass_122 : decode cX3_pass 122 = .ok (.aload_n 0, 1) := by decide +kernel
theorem dX3_pass_123 : decode cX3_pass 123 = .ok (.aload_n 1, 1) := by decide +kernel
theorem dX3_pass_124 : decode cX3_pass 124 = .ok (.aload_n 2, 1) := by decide +kernel
theorem dX3_pass_125 : decode cX3_pass 125 = .ok (.iload 4, 2) := by decide +kernel
theorem dX3_pass_127 : decode cX3_pass 127 = .ok (.invokevirtual 54, 3) := by decide +kernel
theorem dX3_pass_130 : decode cX3_pass 130 = .ok (.istore 4, 2) := by decide +kernel
theorem dX3_pass_132 : decode cX3_pass 132 = .ok (.iinc 5 1, 3) := by decide +kernel
theorem dX3_pass_135 : decode cX3_pass 135 = .ok (.goto (-89), 3) := by decide +kernel
theorem dX3_pass_138 : decode cX3_pass 138 = .ok (.return_, 1) := by decide +kernel
theorem dX3_behindEnd_0 : decode cX3_behindEnd 0 = .ok (.aload_n 1, 1) := by decide +kernel
theorem dX3_behindEnd_1 : decode cX3_behindEnd 1 = .ok (.getfield 58, 3) := by decide +kernel
theorem dX3_behindEnd_4 : decode cX3_behindEnd 4 = .ok (.iload_n 2, 1) := by decide +kernel
theorem dX3_behindEnd_5 : decode cX3_behindEnd 5 = .ok (.iaload, 1) := by decide +kernel
theorem dX3_behindEnd_6 : decode cX3_behindEnd 6 = .ok (.istore_n 3, 1) := by decide +kernel
theorem dX3_behindEnd_7 : decode cX3_behindEnd 7 = .ok (.iload_n 3, 1) := by decide +kernel
theorem dX3_behindEnd_8 : decode cX3_behindEnd 8 = .ok (.ifCond .lt 19, 3) := by decide +kernel
theorem dX3_behindEnd_11 : decode cX3_behindEnd 11 = .ok (.iload_n 3, 1) := by decide +kernel
theorem dX3_behindEnd_12 : decode cX3_behindEnd 12 = .ok (.iload_n 2, 1) := by decide +kernel
theorem dX3_behindEnd_13 : decode cX3_behindEnd 13 = .ok (.if_icmp .ge 14, 3) := by decide +kernel
theorem dX3_behindEnd_16 : decode cX3_behindEnd 16 = .ok (.aload_n 1, 1) := by decide +kernel
theorem dX3_behindEnd_17 : decode cX3_behindEnd 17 = .ok (.getfield 47, 3) := by decide +kernel
theorem dX3_behindEnd_20 : decode cX3_behindEnd 20 = .ok (.iload_n 3, 1) := by decide +kernel
theorem dX3_behindEnd_21 : decode cX3_behindEnd 21 = .ok (.iaload, 1) := by decide +kernel
theorem dX3_behindEnd_22 : decode cX3_behindEnd 22 = .ok (.bipush 10, 2) := by decide +kernel
theorem dX3_behindEnd_24 : decode cX3_behindEnd 24 = .ok (.if_icmp .eq 7, 3) := by decide +kernel
theorem dX3_behindEnd_27 : decode cX3_behindEnd 27 = .ok (.iload_n 2, 1) := by decide +kernel
theorem dX3_behindEnd_28 : decode cX3_behindEnd 28 = .ok (.iconst 1, 1) := by decide +kernel
theorem dX3_behindEnd_29 : decode cX3_behindEnd 29 = .ok (.iadd, 1) := by decide +kernel
theorem dX3_behindEnd_30 : decode cX3_behindEnd 30 = .ok (.ireturn, 1) := by decide +kernel
theorem dX3_behindEnd_31 : decode cX3_behindEnd 31 = .ok (.aload_n 0, 1) := by decide +kernel
theorem dX3_behindEnd_32 : decode cX3_behindEnd 32 = .ok (.getfield 11, 3) := by decide +kernel
theorem dX3_behindEnd_35 : decode cX3_behindEnd 35 = .ok (.iload_n 3, 1) := by decide +kernel
theorem dX3_behindEnd_36 : decode cX3_behindEnd 36 = .ok (.dup2, 1) := by decide +kernel
theorem dX3_behindEnd_37 : decode cX3_behindEnd 37 = .ok (.iaload, 1) := by decide +kernel
theorem dX3_behindEnd_38 : decode cX3_behindEnd 38 = .ok (.iconst 1, 1) := by decide +kernel
theorem dX3_behindEnd_39 : decode cX3_behindEnd 39 = .ok (.isub, 1) := by decide +kernel
theorem dX3_behindEnd_40 : decode cX3_behindEnd 40 = .ok (.iastore, 1) := by decide +kernel
theorem dX3_behindEnd_41 : decode cX3_behindEnd 41 = .ok (.aload_n 0, 1) := by decide +kernel
theorem dX3_behindEnd_42 : decode cX3_behindEnd 42 = .ok (.getfield 11, 3) := by decide +kernel
theorem dX3_behindEnd_45 : decode cX3_behindEnd 45 = .ok (.iload_n 3, 1) := by decide +kernel
theorem dX3_behindEnd_46 : decode cX3_behindEnd 46 = .ok (.iaload, 1) := by decide +kernel
theorem dX3_behindEnd_47 : decode cX3_behindEnd 47 = .ok (.ifCond .le 9, 3) := by decide +kernel
theorem dX3_behindEnd_50 : decode cX3_behindEnd 50 = .ok (.iload_n 3, 1) := by decide +kernel
theorem dX3_behindEnd_51 : decode cX3_behindEnd 51 = .ok (.iconst 1, 1) := by decide +kernel
theorem dX3_behindEnd_52 : decode cX3_behindEnd 52 = .ok (.iadd, 1) := by decide +kernel
theorem dX3_behindEnd_53 : decode cX3_behindEnd 53 = .ok (.goto 6, 3) := by decide +kernel
theorem dX3_behindEnd_56 : decode cX3_behindEnd 56 = .ok (.iload_n 2, 1) := by decide +kernel
theorem dX3_behindEnd_57 : decode cX3_behindEnd 57 = .ok (.iconst 1, 1) := by decide +kernel
theorem dX3_behindEnd_58 : decode cX3_behindEnd 58 = .ok (.iadd, 1) := by decide +kernel
theorem dX3_behindEnd_59 : decode cX3_behindEnd 59 = .ok (.ireturn, 1) := by decide +kernel
theorem dX3_behindStep_0 : decode cX3_behindStep 0 = .ok (.aload_n 1, 1) := by decide +kernel
theorem dX3_behindStep_1 : decode cX3_behindStep 1 = .ok (.getfield 61, 3) := by decide +kernel
theorem dX3_behindStep_4 : decode cX3_behindStep 4 = .ok (.iload_n 3, 1) := by decide +kernel
theorem dX3_behindStep_5 : decode cX3_behindStep 5 = .ok (.iaload, 1) := by decide +kernel
theorem dX3_behindStep_6 : decode cX3_behindStep 6 = .ok (.istore 4, 2) := by decide +kernel
theorem dX3_behindStep_8 : decode cX3_behindStep 8 = .ok (.aload_n 1, 1) := by decide +kernel
theorem dX3_behindStep_9 : decode cX3_behindStep 9 = .ok (.getfield 64, 3) := by decide +kernel
theorem dX3_behindStep_12 : decode cX3_behindStep 12 = .ok (.iload_n 3, 1) := by decide +kernel
theorem dX3_behindStep_13 : decode cX3_behindStep 13 = .ok (.iaload, 1) := by decide +kernel
theorem dX3_behindStep_14 : decode cX3_behindStep 14 = .ok (.istore 5, 2) := by decide +kernel
theorem dX3_behindStep_16 : decode cX3_behindStep 16 = .ok (.aload_n 1, 1) := by decide +kernel
theorem dX3_behindStep_17 : decode cX3_behindStep 17 = .ok (.getfield 47, 3) := by decide +kernel
theorem dX3_behindStep_20 : decode cX3_behindStep 20 = .ok (.iload_n 3, 1) := by decide +kernel
theorem dX3_behindStep_21 : decode cX3_behindStep 21 = .ok (.iaload, 1) := by decide +kernel
theorem dX3_behindStep_22 : decode cX3_behindStep 22 = .ok (.tableswitch 127 0 11 #[62, 72, 83, 94, 106, 127, 127, 127, 127, 127, 114, 125], 62) := by decide +kernel
theorem dX3_behindStep_84 : decode cX3_behindStep 84 = .ok (.aload_n 0, 1) := by decide +kernel
theorem dX3_behindStep_85 : decode cX3_behindStep 85 = .ok (.aload_n 2, 1) := by decide +kernel
theorem dX3_behindStep_86 : decode cX3_behindStep 86 = .ok (.iload 5, 2) := by decide +kernel
theorem dX3_behindStep_88 : decode cX3_behindStep 88 = .ok (.invokevirtual 67, 3) := by decide +kernel
theorem dX3_behindStep_91 : decode cX3_behindStep 91 = .ok (.goto 90, 3) := by decide +kernel
theorem dX3_behindStep_94 : decode cX3_behindStep 94 = .ok (.aload_n 0, 1) := by decide +kernel
theorem dX3_behindStep_95 : decode cX3_behindStep 95 = .ok (.aload_n 2, 1) := by decide +kernel
theorem dX3_behindStep_96 : decode cX3_behindStep 96 = .ok (.iload 4, 2) := by decide +kernel
theorem dX3_behindStep_98 : decode cX3_behindStep 98 = .ok (.iconst 1, 1) := by decide +kernel
theorem dX3_behindStep_99 : decode cX3_behindStep 99 = .ok (.invokevirtual 71, 3) := by decide +kernel
theorem dX3_behindStep_102 : decode cX3_behindStep 102 = .ok (.goto 79, 3) := by decide +kernel
theorem dX3_behindStep_105 : decode cX3_behindStep 105 = .ok (.aload_n 0, 1) := by decide +kernel
theorem dX3_behindStep_106 : decode cX3_behindStep 106 = .ok (.aload_n 2, 1) := by decide +kernel
theorem dX3_behindStep_107 : decode cX3_behindStep 107 = .ok (.iload 4, 2) := by decide +kernel
theorem dX3_behindStep_109 : decode cX3_behindStep 109 = .ok (.iconst 0, 1) := by decide +kernel
theorem dX3_behindStep_110 : decode cX3_behindStep 110 = .ok (.invokevirtual 71, 3) := by decide +kernel
theorem dX3_behindStep_113 : decode cX3_behindStep 113 = .ok (.goto 68, 3) := by decide +kernel
theorem dX3_behindStep_116 : decode cX3_behindStep 116 = .ok (.aload_n 0, 1) := by decide +kernel
theorem dX3_behindStep_117 : decode cX3_behindStep 117 = .ok (.aload_n 2, 1) := by decide +kernel
theorem dX3_behindStep_118 : decode cX3_behindStep 118 = .ok (.iload 4, 2) := by decide +kernel
theorem dX3_behindStep_120 : decode cX3_behindStep 120 = .ok (.iload 5, 2) := by decide +kernel
theorem dX3_behindStep_122 : decode cX3_behindStep 122 = .ok (.invokevirtual 75, 3) := by decide +kernel
theorem dX3_behindStep_125 : decode cX3_behindStep 125 = .ok (.goto 56, 3) := by decide +kernel
theorem dX3_behindStep_128 : decode cX3_behindStep 128 = .ok (.aload_n 0, 1) := by decide +kernel
theorem dX3_behindStep_129 : decode cX3_behindStep 129 = .ok (.aload_n 2, 1) := by decide +kernel
theorem dX3_behindStep_130 : decode cX3_behindStep 130 = .ok (.invokevirtual 79, 3) := by decide +kernel
theorem dX3_behindStep_133 : decode cX3_behindStep 133 = .ok (.goto 48, 3) := by decide +kernel
theorem dX3_behindStep_136 : decode cX3_behindStep 136 = .ok (.aload_n 0, 1) := by decide +kernel
theorem dX3_behindStep_137 : decode cX3_behindStep 137 = .ok (.getfield 11, 3) := by decide +kernel
theorem dX3_behindStep_140 : decode cX3_behindStep 140 = .ok (.iload_n 3, 1) := by decide +kernel
theorem dX3_behindStep_141 : decode cX3_behindStep 141 = .ok (.iload 5, 2) := by decide +kernel
theorem dX3_behindStep_143 : decode cX3_behindStep 143 = .ok (.iastore, 1) := by decide +kernel
theorem dX3_behindStep_144 : decode cX3_behindStep 144 = .ok (.goto 37, 3) := by decide +kernel
theorem dX3_behindStep_147 : decode cX3_behindStep 147 = .ok (.iconst (-1), 1) := by decide +kernel
theorem dX3_behindStep_148 : decode cX3_behindStep 148 = .ok (.ireturn, 1) := by decide +kernel
theorem dX3_behindStep_149 : decode cX3_behindStep 149 = .ok (.aload_n 1, 1) := by decide +kernel
theorem dX3_behindStep_150 : decode cX3_behindStep 150 = .ok (.getfield 47, 3) := by decide +kernel
theorem dX3_behindStep_153 : decode cX3_behindStep 153 = .ok (.iload_n 3, 1) := by decide +kernel
theorem dX3_behindStep_154 : decode cX3_behindStep 154 = .ok (.iaload, 1) := by decide +kernel
theorem dX3_behindStep_155 : decode cX3_behindStep 155 = .ok (.aload_n 2, 1) := by decide +kernel
theorem dX3_behindStep_156 : decode cX3_behindStep 156 = .ok (.iload 4, 2) := by decide +kernel
theorem dX3_behindStep_158 : decode cX3_behindStep 158 = .ok (.iload 5, 2) := by decide +kernel
theorem dX3_behindStep_160 : decode cX3_behindStep 160 = .ok (.invokestatic 83, 3) := by decide +kernel
theorem dX3_behindStep_163 : decode cX3_behindStep 163 = .ok (.ifCond .eq 9, 3) := by decide +kernel
theorem dX3_behindStep_166 : decode cX3_behindStep 166 = .ok (.iload_n 3, 1) := by decide +kernel
theorem dX3_behindStep_167 : decode cX3_behindStep 167 = .ok (.iconst 1, 1) := by decide +kernel
theorem dX3_behindStep_168 : decode cX3_behindStep 168 = .ok (.iadd, 1) := by decide +kernel
theorem dX3_behindStep_169 : decode cX3_behindStep 169 = .ok (.goto 11, 3) := by decide +kernel
theorem dX3_behindStep_172 : decode cX3_behindStep 172 = .ok (.aload_n 1, 1) := by decide +kernel
theorem dX3_behindStep_173 : decode cX3_behindStep 173 = .ok (.getfield 58, 3) := by decide +kernel
theorem dX3_behindStep_176 : decode cX3_behindStep 176 = .ok (.iload_n 3, 1) := by decide +kernel
theorem dX3_behindStep_177 : decode cX3_behindStep 177 = .ok (.iaload, 1) := by decide +kernel
theorem dX3_behindStep_178 : decode cX3_behindStep 178 = .ok (.iconst 1, 1) := by decide +kernel
theorem dX3_behindStep_179 : decode cX3_behindStep 179 = .ok (.iadd, 1) := by decide +kernel
theorem dX3_behindStep_180 : decode cX3_behindStep 180 = .ok (.ireturn, 1) := by decide +kernel
theorem dX3_behindStep_181 : decode cX3_behindStep 181 = .ok (.iload_n 3, 1) := by decide +kernel
theorem dX3_behindStep_182 : decode cX3_behindStep 182 = .ok (.iconst 1, 1) := by decide +kernel
theorem dX3_behindStep_183 : decode cX3_behindStep 183 = .ok (.iadd, 1) := by decide +kernel
theorem dX3_behindStep_184 : decode cX3_behindStep 184 = .ok (.ireturn, 1) := by decide +kernel
theorem dX3_goOn_0 : decode cX3_goOn 0 = .ok (.aload_n 1, 1) := by decide +kernel
theorem dX3_goOn_1 : decode cX3_goOn 1 = .ok (.getfield 87, 3) := by decide +kernel
theorem dX3_goOn_4 : decode cX3_goOn 4 = .ok (.iload_n 2, 1) := by decide +kernel
theorem dX3_goOn_5 : decode cX3_goOn 5 = .ok (.iadd, 1) := by decide +kernel
theorem dX3_goOn_6 : decode cX3_goOn 6 = .ok (.sipush 9999, 3) := by decide +kernel
theorem dX3_goOn_9 : decode cX3_goOn 9 = .ok (.if_icmp .le 14, 3) := by decide +kernel
theorem dX3_goOn_12 : decode cX3_goOn 12 = .ok (.aload_n 0, 1) := by decide +kernel
theorem dX3_goOn_13 : decode cX3_goOn 13 = .ok (.dup, 1) := by decide +kernel
theorem dX3_goOn_14 : decode cX3_goOn 14 = .ok (.getfield 25, 3) := by decide +kernel
theorem dX3_goOn_17 : decode cX3_goOn 17 = .ok (.iconst 1, 1) := by decide +kernel
theorem dX3_goOn_18 : decode cX3_goOn 18 = .ok (.iadd, 1) := by decide +kernel
theorem dX3_goOn_19 : decode cX3_goOn 19 = .ok (.putfield 25, 3) := by decide +kernel
theorem dX3_goOn_22 : decode cX3_goOn 22 = .ok (.return_, 1) := by decide +kernel
theorem dX3_goOn_23 : decode cX3_goOn 23 = .ok (.aload_n 1, 1) := by decide +kernel
theorem dX3_goOn_24 : decode cX3_goOn 24 = .ok (.getfield 92, 3) := by decide +kernel
theorem dX3_goOn_27 : decode cX3_goOn 27 = .ok (.getfield 96, 3) := by decide +kernel
theorem dX3_goOn_30 : decode cX3_goOn 30 = .ok (.istore_n 3, 1) := by decide +kernel
theorem dX3_goOn_31 : decode cX3_goOn 31 = .ok (.iconst 0, 1) := by decide +kernel
theorem dX3_goOn_32 : decode cX3_goOn 32 = .ok (.istore 4, 2) := by decide +kernel
theorem dX3_goOn_34 : decode cX3_goOn 34 = .ok (.iload 4, 2) := by decide +kernel
theorem dX3_goOn_36 : decode cX3_goOn 36 = .ok (.iload_n 2, 1) := by decide +kernel
theorem dX3_goOn_37 : decode cX3_goOn 37 = .ok (.if_icmp .ge 13, 3) := by decide +kernel
theorem dX3_goOn_40 : decode cX3_goOn 40 = .ok (.aload_n 1, 1) := by decide +kernel
theorem dX3_goOn_41 : decode cX3_goOn 41 = .ok (.invokevirtual 99, 3) := by decide +kernel
theorem dX3_goOn_44 : decode cX3_goOn 44 = .ok (.iinc 4 1, 3) := by decide +kernel
theorem dX3_goOn_47 : decode cX3_goOn 47 = .ok (.goto (-13), 3) := by decide +kernel
theorem dX3_goOn_50 : decode cX3_goOn 50 = .ok (.aload_n 0, 1) := by decide +kernel
theorem dX3_goOn_51 : decode cX3_goOn 51 = .ok (.dup, 1) := by decide +kernel
theorem dX3_goOn_52 : decode cX3_goOn 52 = .ok (.getfield 28, 3) := by decide +kernel
theorem dX3_goOn_55 : decode cX3_goOn 55 = .ok (.iload_n 2, 1) := by decide +kernel
theorem dX3_goOn_56 : decode cX3_goOn 56 = .ok (.iadd, 1) := by decide +kernel
theorem dX3_goOn_57 : decode cX3_goOn 57 = .ok (.putfield 28, 3) := by decide +kernel
theorem dX3_goOn_60 : decode cX3_goOn 60 = .ok (.aload_n 0, 1) := by decide +kernel
theorem dX3_goOn_61 : decode cX3_goOn 61 = .ok (.dup, 1) := by decide +kernel
theorem dX3_goOn_62 : decode cX3_goOn 62 = .ok (.getfield 34, 3) := by decide +kernel
theorem dX3_goOn_65 : decode cX3_goOn 65 = .ok (.aload_n 1, 1) := by decide +kernel
theorem dX3_goOn_66 : decode cX3_goOn 66 = .ok (.getfield 92, 3) := by decide +kernel
theorem dX3_goOn_69 : decode cX3_goOn 69 = .ok (.getfield 96, 3) := by decide +kernel
theorem dX3_goOn_72 : decode cX3_goOn 72 = .ok (.iload_n 3, 1) := by decide +kernel
theorem dX3_goOn_73 : decode cX3_goOn 73 = .ok (.iconst (-1), 1) := by decide +kernel
theorem dX3_goOn_74 : decode cX3_goOn 74 = .ok (.ixor, 1) := by decide +kernel
theorem dX3_goOn_75 : decode cX3_goOn 75 = .ok (.iand, 1) := by decide +kernel
theorem dX3_goOn_76 : decode cX3_goOn 76 = .ok (.invokestatic 102, 3) := by decide +kernel
theorem dX3_goOn_79 : decode cX3_goOn 79 = .ok (.iadd, 1) := by decide +kernel
theorem dX3_goOn_80 : decode cX3_goOn 80 = .ok (.putfield 34, 3) := by decide +kernel
theorem dX3_goOn_83 : decode cX3_goOn 83 = .ok (.return_, 1) := by decide +kernel
theorem dX3_turn_0 : decode cX3_turn 0 = .ok (.aload_n 1, 1) := by decide +kernel
theorem dX3_turn_1 : decode cX3_turn 1 = .ok (.getfield 108, 3) := by decide +kernel
theorem dX3_turn_4 : decode cX3_turn 4 = .ok (.iload_n 2, 1) := by decide +kernel
theorem dX3_turn_5 : decode cX3_turn 5 = .ok (.invokevirtual 112, 3) := by decide +kernel
theorem dX3_turn_8 : decode cX3_turn 8 = .ok (.iload_n 3, 1) := by decide +kernel
theorem dX3_turn_9 : decode cX3_turn 9 = .ok (.if_icmp .ne 16, 3) := by decide +kernel
theorem dX3_turn_12 : decode cX3_turn 12 = .ok (.aload_n 0, 1) := by decide +kernel
theorem dX3_turn_13 : decode cX3_turn 13 = .ok (.dup, 1) := by decide +kernel
theorem dX3_turn_14 : decode cX3_turn 14 = .ok (.getfield 25, 3) := by decide +kernel
theorem dX3_turn_17 : decode cX3_turn 17 = .ok (.iconst 1, 1) := by decide +kernel
theorem dX3_turn_18 : decode cX3_turn 18 = .ok (.iadd, 1) := by decide +kernel
theorem dX3_turn_19 : decode cX3_turn 19 = .ok (.putfield 25, 3) := by decide +kernel
theorem dX3_turn_22 : decode cX3_turn 22 = .ok (.goto 18, 3) := by decide +kernel
theorem dX3_turn_25 : decode cX3_turn 25 = .ok (.aload_n 1, 1) := by decide +kernel
theorem dX3_turn_26 : decode cX3_turn 26 = .ok (.getfield 108, 3) := by decide +kernel
theorem dX3_turn_29 : decode cX3_turn 29 = .ok (.dup, 1) := by decide +kernel
theorem dX3_turn_30 : decode cX3_turn 30 = .ok (.getfield 118, 3) := by decide +kernel
theorem dX3_turn_33 : decode cX3_turn 33 = .ok (.iconst 1, 1) := by decide +kernel
theorem dX3_turn_34 : decode cX3_turn 34 = .ok (.iload_n 2, 1) := by decide +kernel
theorem dX3_turn_35 : decode cX3_turn 35 = .ok (.ishl, 1) := by decide +kernel
theorem dX3_turn_36 : decode cX3_turn 36 = .ok (.ixor, 1) := by decide +kernel
theorem dX3_turn_37 : decode cX3_turn 37 = .ok (.putfield 118, 3) := by decide +kernel
theorem dX3_turn_40 : decode cX3_turn 40 = .ok (.return_, 1) := by decide +kernel
theorem dX3_turnAny_0 : decode cX3_turnAny 0 = .ok (.aload_n 1, 1) := by decide +kernel
theorem dX3_turnAny_1 : decode cX3_turnAny 1 = .ok (.getfield 108, 3) := by decide +kernel
theorem dX3_turnAny_4 : decode cX3_turnAny 4 = .ok (.getfield 121, 3) := by decide +kernel
theorem dX3_turnAny_7 : decode cX3_turnAny 7 = .ok (.iconst 1, 1) := by decide +kernel
theorem dX3_turnAny_8 : decode cX3_turnAny 8 = .ok (.if_icmp .ge 16, 3) := by decide +kernel
theorem dX3_turnAny_11 : decode cX3_turnAny 11 = .ok (.aload_n 0, 1) := by decide +kernel
theorem dX3_turnAny_12 : decode cX3_turnAny 12 = .ok (.dup, 1) := by decide +kernel
theorem dX3_turnAny_13 : decode cX3_turnAny 13 = .ok (.getfield 25, 3) := by decide +kernel
theorem dX3_turnAny_16 : decode cX3_turnAny 16 = .ok (.iconst 1, 1) := by decide +kernel
theorem dX3_turnAny_17 : decode cX3_turnAny 17 = .ok (.iadd, 1) := by decide +kernel
theorem dX3_turnAny_18 : decode cX3_turnAny 18 = .ok (.putfield 25, 3) := by decide +kernel
theorem dX3_turnAny_21 : decode cX3_turnAny 21 = .ok (.goto 28, 3) := by decide +kernel
theorem dX3_turnAny_24 : decode cX3_turnAny 24 = .ok (.aload_n 1, 1) := by decide +kernel
theorem dX3_turnAny_25 : decode cX3_turnAny 25 = .ok (.getfield 108, 3) := by decide +kernel
theorem dX3_turnAny_28 : decode cX3_turnAny 28 = .ok (.dup, 1) := by decide +kernel
theorem dX3_turnAny_29 : decode cX3_turnAny 29 = .ok (.getfield 118, 3) := by decide +kernel
theorem dX3_turnAny_32 : decode cX3_turnAny 32 = .ok (.iconst 1, 1) := by decide +kernel
theorem dX3_turnAny_33 : decode cX3_turnAny 33 = .ok (.aload_n 0, 1) := by decide +kernel
theorem dX3_turnAny_34 : decode cX3_turnAny 34 = .ok (.aload_n 1, 1) := by decide +kernel
theorem dX3_turnAny_35 : decode cX3_turnAny 35 = .ok (.getfield 108, 3) := by decide +kernel
theorem dX3_turnAny_38 : decode cX3_turnAny 38 = .ok (.getfield 121, 3) := by decide +kernel
theorem dX3_turnAny_41 : decode cX3_turnAny 41 = .ok (.invokevirtual 124, 3) := by decide +kernel
theorem dX3_turnAny_44 : decode cX3_turnAny 44 = .ok (.ishl, 1) := by decide +kernel
theorem dX3_turnAny_45 : decode cX3_turnAny 45 = .ok (.ixor, 1) := by decide +kernel
theorem dX3_turnAny_46 : decode cX3_turnAny 46 = .ok (.putfield 118, 3) := by decide +kernel
theorem dX3_turnAny_49 : decode cX3_turnAny 49 = .ok (.return_, 1) := by decide +kernel
theorem dX3_drawBy_0 : decode cX3_drawBy 0 = .ok (.aload_n 0, 1) := by decide +kernel
theorem dX3_drawBy_1 : decode cX3_drawBy 1 = .ok (.aload_n 0, 1) := by decide +kernel
theorem dX3_drawBy_2 : decode cX3_drawBy 2 = .ok (.getfield 40, 3) := by decide +kernel
theorem dX3_drawBy_5 : decode cX3_drawBy 5 = .ok (.sipush 3011, 3) := by decide +kernel
theorem dX3_drawBy_8 : decode cX3_drawBy 8 = .ok (.imul, 1) := by decide +kernel
theorem dX3_drawBy_9 : decode cX3_drawBy 9 = .ok (.sipush 11213, 3) := by decide +kernel
theorem dX3_drawBy_12 : decode cX3_drawBy 12 = .ok (.iadd, 1) := by decide +kernel
theorem dX3_drawBy_13 : decode cX3_drawBy 13 = .ok (.ldc 127, 2) := by decide +kernel
theorem dX3_drawBy_15 : decode cX3_drawBy 15 = .ok (.irem, 1) := by decide +kernel
theorem dX3_drawBy_16 : decode cX3_drawBy 16 = .ok (.putfield 40, 3) := by decide +kernel
theorem dX3_drawBy_19 : decode cX3_drawBy 19 = .ok (.iload_n 1, 1) := by decide +kernel
theorem dX3_drawBy_20 : decode cX3_drawBy 20 = .ok (.iconst 1, 1) := by decide +kernel
theorem dX3_drawBy_21 : decode cX3_drawBy 21 = .ok (.if_icmp .ge 7, 3) := by decide +kernel
theorem dX3_drawBy_24 : decode cX3_drawBy 24 = .ok (.iconst 0, 1) := by decide +kernel
theorem dX3_drawBy_25 : decode cX3_drawBy 25 = .ok (.goto 12, 3) := by decide +kernel
theorem dX3_drawBy_28 : decode cX3_drawBy 28 = .ok (.aload_n 0, 1) := by decide +kernel
theorem dX3_drawBy_29 : decode cX3_drawBy 29 = .ok (.getfield 40, 3) := by decide +kernel
theorem dX3_drawBy_32 : decode cX3_drawBy 32 = .ok (.bipush 8, 2) := by decide +kernel
theorem dX3_drawBy_34 : decode cX3_drawBy 34 = .ok (.idiv, 1) := by decide +kernel
theorem dX3_drawBy_35 : decode cX3_drawBy 35 = .ok (.iload_n 1, 1) := by decide +kernel
theorem dX3_drawBy_36 : decode cX3_drawBy 36 = .ok (.irem, 1) := by decide +kernel
theorem dX3_drawBy_37 : decode cX3_drawBy 37 = .ok (.ireturn, 1) := by decide +kernel
theorem dX3_bailOut_0 : decode cX3_bailOut 0 = .ok (.iload_n 2, 1) := by decide +kernel
theorem dX3_bailOut_1 : decode cX3_bailOut 1 = .ok (.ifCond .lt 27, 3) := by decide +kernel
theorem dX3_bailOut_4 : decode cX3_bailOut 4 = .ok (.iload_n 2, 1) := by decide +kernel
theorem dX3_bailOut_5 : decode cX3_bailOut 5 = .ok (.aload_n 1, 1) := by decide +kernel
theorem dX3_bailOut_6 : decode cX3_bailOut 6 = .ok (.getfield 92, 3) := by decide +kernel
theorem dX3_bailOut_9 : decode cX3_bailOut 9 = .ok (.getfield 128, 3) := by decide +kernel
theorem dX3_bailOut_12 : decode cX3_bailOut 12 = .ok (.if_icmp .ge 16, 3) := by decide +kernel
theorem dX3_bailOut_15 : decode cX3_bailOut 15 = .ok (.aload_n 1, 1) := by decide +kernel
theorem dX3_bailOut_16 : decode cX3_bailOut 16 = .ok (.getfield 92, 3) := by decide +kernel
theorem dX3_bailOut_19 : decode cX3_bailOut 19 = .ok (.getfield 129, 3) := by decide +kernel
theorem dX3_bailOut_22 : decode cX3_bailOut 22 = .ok (.iload_n 2, 1) := by decide +kernel
theorem dX3_bailOut_23 : decode cX3_bailOut 23 = .ok (.iaload, 1) := by decide +kernel
theorem dX3_bailOut_24 : decode cX3_bailOut 24 = .ok (.iload_n 3, 1) := by decide +kernel
theorem dX3_bailOut_25 : decode cX3_bailOut 25 = .ok (.if_icmp .ge 16, 3) := by decide +kernel
theorem dX3_bailOut_28 : decode cX3_bailOut 28 = .ok (.aload_n 0, 1) := by decide +kernel
theorem dX3_bailOut_29 : decode cX3_bailOut 29 = .ok (.dup, 1) := by decide +kernel
theorem dX3_bailOut_30 : decode cX3_bailOut 30 = .ok (.getfield 25, 3) := by decide +kernel
theorem dX3_bailOut_33 : decode cX3_bailOut 33 = .ok (.iconst 1, 1) := by decide +kernel
theorem dX3_bailOut_34 : decode cX3_bailOut 34 = .ok (.iadd, 1) := by decide +kernel
theorem dX3_bailOut_35 : decode cX3_bailOut 35 = .ok (.putfield 25, 3) := by decide +kernel
theorem dX3_bailOut_38 : decode cX3_bailOut 38 = .ok (.goto 26, 3) := by decide +kernel
theorem dX3_bailOut_41 : decode cX3_bailOut 41 = .ok (.aload_n 1, 1) := by decide +kernel
theorem dX3_bailOut_42 : decode cX3_bailOut 42 = .ok (.getfield 92, 3) := by decide +kernel
theorem dX3_bailOut_45 : decode cX3_bailOut 45 = .ok (.getfield 129, 3) := by decide +kernel
theorem dX3_bailOut_48 : decode cX3_bailOut 48 = .ok (.iload_n 2, 1) := by decide +kernel
theorem dX3_bailOut_49 : decode cX3_bailOut 49 = .ok (.dup2, 1) := by decide +kernel
theorem dX3_bailOut_50 : decode cX3_bailOut 50 = .ok (.iaload, 1) := by decide +kernel
theorem dX3_bailOut_51 : decode cX3_bailOut 51 = .ok (.iload_n 3, 1) := by decide +kernel
theorem dX3_bailOut_52 : decode cX3_bailOut 52 = .ok (.isub, 1) := by decide +kernel
theorem dX3_bailOut_53 : decode cX3_bailOut 53 = .ok (.iastore, 1) := by decide +kernel
theorem dX3_bailOut_54 : decode cX3_bailOut 54 = .ok (.aload_n 0, 1) := by decide +kernel
theorem dX3_bailOut_55 : decode cX3_bailOut 55 = .ok (.dup, 1) := by decide +kernel
theorem dX3_bailOut_56 : decode cX3_bailOut 56 = .ok (.getfield 31, 3) := by decide +kernel
theorem dX3_bailOut_59 : decode cX3_bailOut 59 = .ok (.iload_n 3, 1) := by decide +kernel
theorem dX3_bailOut_60 : decode cX3_bailOut 60 = .ok (.iadd, 1) := by decide +kernel
theorem dX3_bailOut_61 : decode cX3_bailOut 61 = .ok (.putfield 31, 3) := by decide +kernel
theorem dX3_bailOut_64 : decode cX3_bailOut 64 = .ok (.return_, 1) := by decide +kernel
theorem dX3_isSo_0 : decode cX3_isSo 0 = .ok (.iload_n 0, 1) := by decide +kernel
theorem dX3_isSo_1 : decode cX3_isSo 1 = .ok (.tableswitch 124 5 9 #[35, 52, 70, 88, 106], 35) := by decide +kernel
theorem dX3_isSo_36 : decode cX3_isSo 36 = .ok (.aload_n 1, 1) := by decide +kernel
theorem dX3_isSo_37 : decode cX3_isSo 37 = .ok (.getfield 92, 3) := by decide +kernel
theorem dX3_isSo_40 : decode cX3_isSo 40 = .ok (.iload_n 2, 1) := by decide +kernel
theorem dX3_isSo_41 : decode cX3_isSo 41 = .ok (.invokevirtual 132, 3) := by decide +kernel
theorem dX3_isSo_44 : decode cX3_isSo 44 = .ok (.ifCond .le 7, 3) := by decide +kernel
theorem dX3_isSo_47 : decode cX3_isSo 47 = .ok (.iconst 1, 1) := by decide +kernel
theorem dX3_isSo_48 : decode cX3_isSo 48 = .ok (.goto 4, 3) := by decide +kernel
theorem dX3_isSo_51 : decode cX3_isSo 51 = .ok (.iconst 0, 1) := by decide +kernel
theorem dX3_isSo_52 : decode cX3_isSo 52 = .ok (.ireturn, 1) := by decide +kernel
theorem dX3_isSo_53 : decode cX3_isSo 53 = .ok (.aload_n 1, 1) := by decide +kernel
theorem dX3_isSo_54 : decode cX3_isSo 54 = .ok (.invokevirtual 135, 3) := by decide +kernel
theorem dX3_isSo_57 : decode cX3_isSo 57 = .ok (.iload_n 2, 1) := by decide +kernel
theorem dX3_isSo_58 : decode cX3_isSo 58 = .ok (.ishr, 1) := by decide +kernel
theorem dX3_isSo_59 : decode cX3_isSo 59 = .ok (.iconst 1, 1) := by decide +kernel
theorem dX3_isSo_60 : decode cX3_isSo 60 = .ok (.iand, 1) := by decide +kernel
theorem dX3_isSo_61 : decode cX3_isSo 61 = .ok (.iconst 1, 1) := by decide +kernel
theorem dX3_isSo_62 : decode cX3_isSo 62 = .ok (.if_icmp .ne 7, 3) := by decide +kernel
theorem dX3_isSo_65 : decode cX3_isSo 65 = .ok (.iconst 1, 1) := by decide +kernel
theorem dX3_isSo_66 : decode cX3_isSo 66 = .ok (.goto 4, 3) := by decide +kernel
theorem dX3_isSo_69 : decode cX3_isSo 69 = .ok (.iconst 0, 1) := by decide +kernel
theorem dX3_isSo_70 : decode cX3_isSo 70 = .ok (.ireturn, 1) := by decide +kernel
theorem dX3_isSo_71 : decode cX3_isSo 71 = .ok (.aload_n 1, 1) := by decide +kernel
theorem dX3_isSo_72 : decode cX3_isSo 72 = .ok (.getfield 92, 3) := by decide +kernel
theorem dX3_isSo_75 : decode cX3_isSo 75 = .ok (.iload_n 2, 1) := by decide +kernel
theorem dX3_isSo_76 : decode cX3_isSo 76 = .ok (.invokevirtual 132, 3) := by decide +kernel
theorem dX3_isSo_79 : decode cX3_isSo 79 = .ok (.iload_n 3, 1) := by decide +kernel
theorem dX3_isSo_80 : decode cX3_isSo 80 = .ok (.if_icmp .ge 7, 3) := by decide +kernel
theorem dX3_isSo_83 : decode cX3_isSo 83 = .ok (.iconst 1, 1) := by decide +kernel
theorem dX3_isSo_84 : decode cX3_isSo 84 = .ok (.goto 4, 3) := by decide +kernel
theorem dX3_isSo_87 : decode cX3_isSo 87 = .ok (.iconst 0, 1) := by decide +kernel
theorem dX3_isSo_88 : decode cX3_isSo 88 = .ok (.ireturn, 1) := by decide +kernel
theorem dX3_isSo_89 : decode cX3_isSo 89 = .ok (.aload_n 1, 1) := by decide +kernel
theorem dX3_isSo_90 : decode cX3_isSo 90 = .ok (.getfield 92, 3) := by decide +kernel
theorem dX3_isSo_93 : decode cX3_isSo 93 = .ok (.iload_n 2, 1) := by decide +kernel
theorem dX3_isSo_94 : decode cX3_isSo 94 = .ok (.invokevirtual 132, 3) := by decide +kernel
theorem dX3_isSo_97 : decode cX3_isSo 97 = .ok (.iload_n 3, 1) := by decide +kernel
theorem dX3_isSo_98 : decode cX3_isSo 98 = .ok (.if_icmp .le 7, 3) := by decide +kernel
theorem dX3_isSo_101 : decode cX3_isSo 101 = .ok (.iconst 1, 1) := by decide +kernel
theorem dX3_isSo_102 : decode cX3_isSo 102 = .ok (.goto 4, 3) := by decide +kernel
theorem dX3_isSo_105 : decode cX3_isSo 105 = .ok (.iconst 0, 1) := by decide +kernel
theorem dX3_isSo_106 : decode cX3_isSo 106 = .ok (.ireturn, 1) := by decide +kernel
theorem dX3_isSo_107 : decode cX3_isSo 107 = .ok (.aload_n 1, 1) := by decide +kernel
theorem dX3_isSo_108 : decode cX3_isSo 108 = .ok (.getfield 92, 3) := by decide +kernel
theorem dX3_isSo_111 : decode cX3_isSo 111 = .ok (.iload_n 2, 1) := by decide +kernel
theorem dX3_isSo_112 : decode cX3_isSo 112 = .ok (.invokevirtual 132, 3) := by decide +kernel
theorem dX3_isSo_115 : decode cX3_isSo 115 = .ok (.iload_n 3, 1) := by decide +kernel
theorem dX3_isSo_116 : decode cX3_isSo 116 = .ok (.if_icmp .ne 7, 3) := by decide +kernel
theorem dX3_isSo_119 : decode cX3_isSo 119 = .ok (.iconst 1, 1) := by decide +kernel
theorem dX3_isSo_120 : decode cX3_isSo 120 = .ok (.goto 4, 3) := by decide +kernel
theorem dX3_isSo_123 : decode cX3_isSo 123 = .ok (.iconst 0, 1) := by decide +kernel
theorem dX3_isSo_124 : decode cX3_isSo 124 = .ok (.ireturn, 1) := by decide +kernel
theorem dX3_isSo_125 : decode cX3_isSo 125 = .ok (.iconst 0, 1) := by decide +kernel
theorem dX3_isSo_126 : decode cX3_isSo 126 = .ok (.ireturn, 1) := by decide +kernel
theorem dX4_init_0 : decode cX4_init 0 = .ok (.aload_n 0, 1) := by decide +kernel
theorem dX4_init_1 : decode cX4_init 1 = .ok (.invokespecial 5, 3) := by decide +kernel
theorem dX4_init_4 : decode cX4_init 4 = .ok (.aload_n 0, 1) := by decide +kernel
theorem dX4_init_5 : decode cX4_init 5 = .ok (.bipush 60, 2) := by decide +kernel
theorem dX4_init_7 : decode cX4_init 7 = .ok (.newarray .int, 2) := by decide +kernel
theorem dX4_init_9 : decode cX4_init 9 = .ok (.putfield 11, 3) := by decide +kernel
theorem dX4_init_12 : decode cX4_init 12 = .ok (.aload_n 0, 1) := by decide +kernel
theorem dX4_init_13 : decode cX4_init 13 = .ok (.bipush 60, 2) := by decide +kernel
theorem dX4_init_15 : decode cX4_init 15 = .ok (.newarray .int, 2) := by decide +kernel
theorem dX4_init_17 : decode cX4_init 17 = .ok (.putfield 15, 3) := by decide +kernel
theorem dX4_init_20 : decode cX4_init 20 = .ok (.aload_n 0, 1) := by decide +kernel
theorem dX4_init_21 : decode cX4_init 21 = .ok (.bipush 60, 2) := by decide +kernel
theorem dX4_init_23 : decode cX4_init 23 = .ok (.newarray .int, 2) := by decide +kernel
theorem dX4_init_25 : decode cX4_init 25 = .ok (.putfield 18, 3) := by decide +kernel
theorem dX4_init_28 : decode cX4_init 28 = .ok (.aload_n 0, 1) := by decide +kernel
theorem dX4_init_29 : decode cX4_init 29 = .ok (.bipush 60, 2) := by decide +kernel
theorem dX4_init_31 : decode cX4_init 31 = .ok (.newarray .int, 2) := by decide +kernel
theorem dX4_init_33 : decode cX4_init 33 = .ok (.putfield 21, 3) := by decide +kernel
theorem dX4_init_36 : decode cX4_init 36 = .ok (.return_, 1) := by decide +kernel
theorem dX4_forget_0 : decode cX4_forget 0 = .ok (.aload_n 0, 1) := by decide +kernel
theorem dX4_forget_1 : decode cX4_forget 1 = .ok (.iconst 0, 1) := by decide +kernel
theorem dX4_forget_2 : decode cX4_forget 2 = .ok (.putfield 24, 3) := by decide +kernel
theorem dX4_forget_5 : decode cX4_forget 5 = .ok (.aload_n 0, 1) := by decide +kernel
theorem dX4_forget_6 : decode cX4_forget 6 = .ok (.iconst 0, 1) := by decide +kernel
theorem dX4_forget_7 : decode cX4_forget 7 = .ok (.putfield 28, 3) := by decide +kernel
theorem dX4_forget_10 : decode cX4_forget 10 = .ok (.aload_n 0, 1) := by decide +kernel
theorem dX4_forget_11 : decode cX4_forget 11 = .ok (.iconst 0, 1) := by decide +kernel
theorem dX4_forget_12 : decode cX4_forget 12 = .ok (.putfield 32, 3) := by decide +kernel
theorem dX4_forget_15 : decode cX4_forget 15 = .ok (.return_, 1) := by decide +kernel
theorem dX4_add_0 : decode cX4_add 0 = .ok (.aload_n 0, 1) := by decide +kernel
theorem dX4_add_1 : decode cX4_add 1 = .ok (.getfield 32, 3) := by decide +kernel
theorem dX4_add_4 : decode cX4_add 4 = .ok (.bipush 60, 2) := by decide +kernel
theorem dX4_add_6 : decode cX4_add 6 = .ok (.if_icmp .lt 4, 3) := by decide +kernel
theorem dX4_add_9 : decode cX4_add 9 = .ok (.return_, 1) := by decide +kernel
theorem dX4_add_10 : decode cX4_add 10 = .ok (.aload_n 0, 1) := by decide +kernel
theorem dX4_add_11 : decode cX4_add 11 = .ok (.getfield 11, 3) := by decide +kernel
theorem dX4_add_14 : decode cX4_add 14 = .ok (.aload_n 0, 1) := by decide +kernel
theorem dX4_add_15 : decode cX4_add 15 = .ok (.getfield 32, 3) := by decide +kernel
theorem dX4_add_18 : decode cX4_add 18 = .ok (.iload_n 1, 1) := by decide +kernel
theorem dX4_add_19 : decode cX4_add 19 = .ok (.iastore, 1) := by decide +kernel
theorem dX4_add_20 : decode cX4_add 20 = .ok (.aload_n 0, 1) := by decide +kernel
theorem dX4_add_21 : decode cX4_add 21 = .ok (.getfield 15, 3) := by decide +kernel
theorem dX4_add_24 : decode cX4_add 24 = .ok (.aload_n 0, 1) := by decide +kernel
theorem dX4_add_25 : decode cX4_add 25 = .ok (.getfield 32, 3) := by decide +kernel
theorem dX4_add_28 : decode cX4_add 28 = .ok (.iload_n 2, 1) := by decide +kernel
theorem dX4_add_29 : decode cX4_add 29 = .ok (.iastore, 1) := by decide +kernel
theorem dX4_add_30 : decode cX4_add 30 = .ok (.aload_n 0, 1) := by decide +kernel
theorem dX4_add_31 : decode cX4_add 31 = .ok (.getfield 18, 3) := by decide +kernel
theorem dX4_add_34 : decode cX4_add 34 = .ok (.aload_n 0, 1) := by decide +kernel
theorem dX4_add_35 : decode cX4_add 35 = .ok (.getfield 32, 3) := by decide +kernel
theorem dX4_add_38 : decode cX4_add 38 = .ok (.iload_n 3, 1) := by decide +kernel
theorem dX4_add_39 : decode cX4_add 39 = .ok (.iastore, 1) := by decide +kernel
theorem dX4_add_40 : decode cX4_add 40 = .ok (.aload_n 0, 1) := by decide +kernel
theorem dX4_add_41 : decode cX4_add 41 = .ok (.getfield 21, 3) := by decide +kernel
theorem dX4_add_44 : decode cX4_add 44 = .ok (.aload_n 0, 1) := by decide +kernel
theorem dX4_add_45 : decode cX4_add 45 = .ok (.getfield 32, 3) := by decide +kernel
theorem dX4_add_48 : decode cX4_add 48 = .ok (.iconst (-1), 1) := by decide +kernel
theorem dX4_add_49 : decode cX4_add 49 = .ok (.iastore, 1) := by decide +kernel
theorem dX4_add_50 : decode cX4_add 50 = .ok (.aload_n 0, 1) := by decide +kernel
theorem dX4_add_51 : decode cX4_add 51 = .ok (.dup, 1) := by decide +kernel
theorem dX4_add_52 : decode cX4_add 52 = .ok (.getfield 32, 3) := by decide +kernel
theorem dX4_add_55 : decode cX4_add 55 = .ok (.iconst 1, 1) := by decide +kernel
theorem dX4_add_56 : decode cX4_add 56 = .ok (.iadd, 1) := by decide +kernel
theorem dX4_add_57 : decode cX4_add 57 = .ok (.putfield 32, 3) := by decide +kernel
theorem dX4_add_60 : decode cX4_add 60 = .ok (.return_, 1) := by decide +kernel
theorem dX4_pair_0 : decode cX4_pair 0 = .ok (.iload_n 1, 1) := by decide +kernel
theorem dX4_pair_1 : decode cX4_pair 1 = .ok (.ifCond .lt 37, 3) := by decide +kernel
theorem dX4_pair_4 : decode cX4_pair 4 = .ok (.iload_n 1, 1) := by decide +kernel
theorem dX4_pair_5 : decode cX4_pair 5 = .ok (.aload_n 0, 1) := by decide +kernel
theorem dX4_pair_6 : decode cX4_pair 6 = .ok (.getfield 32, 3) := by decide +kernel
theorem dX4_pair_9 : decode cX4_pair 9 = .ok (.if_icmp .ge 29, 3) := by decide +kernel
theorem dX4_pair_12 : decode cX4_pair 12 = .ok (.iload_n 2, 1) := by decide +kernel
theorem dX4_pair_13 : decode cX4_pair 13 = .ok (.ifCond .lt 25, 3) := by decide +kernel
theorem dX4_pair_16 : decode cX4_pair 16 = .ok (.iload_n 2, 1) := by decide +kernel
theorem dX4_pair_17 : decode cX4_pair 17 = .ok (.aload_n 0, 1) := by decide +kernel
theorem dX4_pair_18 : decode cX4_pair 18 = .ok (.getfield 32, 3) := by decide +kernel
theorem dX4_pair_21 : decode cX4_pair 21 = .ok (.if_icmp .ge 17, 3) := by decide +kernel
theorem dX4_pair_24 : decode cX4_pair 24 = .ok (.aload_n 0, 1) := by decide +kernel
theorem dX4_pair_25 : decode cX4_pair 25 = .ok (.getfield 21, 3) := by decide +kernel
theorem dX4_pair_28 : decode cX4_pair 28 = .ok (.iload_n 1, 1) := by decide +kernel
theorem dX4_pair_29 : decode cX4_pair 29 = .ok (.iload_n 2, 1) := by decide +kernel
theorem dX4_pair_30 : decode cX4_pair 30 = .ok (.iastore, 1) := by decide +kernel
theorem dX4_pair_31 : decode cX4_pair 31 = .ok (.aload_n 0, 1) := by decide +kernel
theorem dX4_pair_32 : decode cX4_pair 32 = .ok (.getfield 21, 3) := by decide +kernel
theorem dX4_pair_35 : decode cX4_pair 35 = .ok (.iload_n 2, 1) := by decide +kernel
theorem dX4_pair_36 : decode cX4_pair 36 = .ok (.iload_n 1, 1) := by decide +kernel
theorem dX4_pair_37 : decode cX4_pair 37 = .ok (.iastore, 1) := by decide +kernel
theorem dX4_pair_38 : decode cX4_pair 38 = .ok (.return_, 1) := by decide +kernel
theorem dX4_copyFrom_0 : decode cX4_copyFrom 0 = .ok (.aload_n 0, 1) := by decide +kernel
theorem dX4_copyFrom_1 : decode cX4_copyFrom 1 = .ok (.aload_n 1, 1) := by decide +kernel
theorem dX4_copyFrom_2 : decode cX4_copyFrom 2 = .ok (.getfield 24, 3) := by decide +kernel
theorem dX4_copyFrom_5 : decode cX4_copyFrom 5 = .ok (.putfield 24, 3) := by decide +kernel
theorem dX4_copyFrom_8 : decode cX4_copyFrom 8 = .ok (.aload_n 0, 1) := by decide +kernel
theorem dX4_copyFrom_9 : decode cX4_copyFrom 9 = .ok (.aload_n 1, 1) := by decide +kernel
theorem dX4_copyFrom_10 : decode cX4_copyFrom 10 = .ok (.getfield 28, 3) := by decide +kernel
theorem dX4_copyFrom_13 : decode cX4_copyFrom 13 = .ok (.putfield 28, 3) := by decide +kernel
theorem dX4_copyFrom_16 : decode cX4_copyFrom 16 = .ok (.aload_n 0, 1) := by decide +kernel
theorem dX4_copyFrom_17 : decode cX4_copyFrom 17 = .ok (.aload_n 1, 1) := by decide +kernel
theorem dX4_copyFrom_18 : decode cX4_copyFrom 18 = .ok (.getfield 32, 3) := by decide +kernel
theorem dX4_copyFrom_21 : decode cX4_copyFrom 21 = .ok (.putfield 32, 3) := by decide +kernel
theorem dX4_copyFrom_24 : decode cX4_copyFrom 24 = .ok (.aload_n 1, 1) := by decide +kernel
theorem dX4_copyFrom_25 : decode cX4_copyFrom 25 = .ok (.getfield 11, 3) := by decide +kernel
theorem dX4_copyFrom_28 : decode cX4_copyFrom 28 = .ok (.iconst 0, 1) := by decide +kernel
theorem dX4_copyFrom_29 : decode cX4_copyFrom 29 = .ok (.aload_n 0, 1) := by decide +kernel
theorem dX4_copyFrom_30 : decode cX4_copyFrom 30 = .ok (.getfield 11, 3) := by decide +kernel
theorem dX4_copyFrom_33 : decode cX4_copyFrom 33 = .ok (.iconst 0, 1) := by decide +kernel
theorem dX4_copyFrom_34 : decode cX4_copyFrom 34 = .ok (.bipush 60, 2) := by decide +kernel
theorem dX4_copyFrom_36 : decode cX4_copyFrom 36 = .ok (.invokestatic 35, 3) := by decide +kernel
theorem dX4_copyFrom_39 : decode cX4_copyFrom 39 = .ok (.aload_n 1, 1) := by decide +kernel
theorem dX4_copyFrom_40 : decode cX4_copyFrom 40 = .ok (.getfield 15, 3) := by decide +kernel
theorem dX4_copyFrom_43 : decode cX4_copyFrom 43 = .ok (.iconst 0, 1) := by decide +kernel
theorem dX4_copyFrom_44 : decode cX4_copyFrom 44 = .ok (.aload_n 0, 1) := by decide +kernel
theorem dX4_copyFrom_45 : decode cX4_copyFrom 45 = .ok (.getfield 15, 3) := by decide +kernel
theorem dX4_copyFrom_48 : decode cX4_copyFrom 48 = .ok (.iconst 0, 1) := by decide +kernel
theorem dX4_copyFrom_49 : decode cX4_copyFrom 49 = .ok (.bipush 60, 2) := by decide +kernel
theorem dX4_copyFrom_51 : decode cX4_copyFrom 51 = .ok (.invokestatic 35, 3) := by decide +kernel
theorem dX4_copyFrom_54 : decode cX4_copyFrom 54 = .ok (.aload_n 1, 1) := by decide +kernel
theorem dX4_copyFrom_55 : decode cX4_copyFrom 55 = .ok (.getfield 18, 3) := by decide +kernel
theorem dX4_copyFrom_58 : decode cX4_copyFrom 58 = .ok (.iconst 0, 1) := by decide +kernel
theorem dX4_copyFrom_59 : decode cX4_copyFrom 59 = .ok (.aload_n 0, 1) := by decide +kernel
theorem dX4_copyFrom_60 : decode cX4_copyFrom 60 = .ok (.getfield 18, 3) := by decide +kernel
theorem dX4_copyFrom_63 : decode cX4_copyFrom 63 = .ok (.iconst 0, 1) := by decide +kernel
theorem dX4_copyFrom_64 : decode cX4_copyFrom 64 = .ok (.bipush 60, 2) := by decide +kernel
theorem dX4_copyFrom_66 : decode cX4_copyFrom 66 = .ok (.invokestatic 35, 3) := by decide +kernel
theorem dX4_copyFrom_69 : decode cX4_copyFrom 69 = .ok (.aload_n 1, 1) := by decide +kernel
theorem dX4_copyFrom_70 : decode cX4_copyFrom 70 = .ok (.getfield 21, 3) := by decide +kernel
theorem dX4_copyFrom_73 : decode cX4_copyFrom 73 = .ok (.iconst 0, 1) := by decide +kernel
theorem dX4_copyFrom_74 : decode cX4_copyFrom 74 = .ok (.aload_n 0, 1) := by decide +kernel
theorem dX4_copyFrom_75 : decode cX4_copyFrom 75 = .ok (.getfield 21, 3) := by decide +kernel
theorem dX4_copyFrom_78 : decode cX4_copyFrom 78 = .ok (.iconst 0, 1) := by decide +kernel
theorem dX4_copyFrom_79 : decode cX4_copyFrom 79 = .ok (.bipush 60, 2) := by decide +kernel
theorem dX4_copyFrom_81 : decode cX4_copyFrom 81 = .ok (.invokestatic 35, 3) := by decide +kernel
theorem dX4_copyFrom_84 : decode cX4_copyFrom 84 = .ok (.return_, 1) := by decide +kernel
theorem dX5_init_0 : decode cX5_init 0 = .ok (.aload_n 0, 1) := by decide +kernel
theorem dX5_init_1 : decode cX5_init 1 = .ok (.invokespecial 3, 3) := by decide +kernel
theorem dX5_init_4 : decode cX5_init 4 = .ok (.aload_n 0, 1) := by decide +kernel
theorem dX5_init_5 : decode cX5_init 5 = .ok (.new 9, 3) := by decide +kernel
theorem dX5_init_8 : decode cX5_init 8 = .ok (.dup, 1) := by decide +kernel
theorem dX5_init_9 : decode cX5_init 9 = .ok (.sipush 300, 3) := by decide +kernel
theorem dX5_init_12 : decode cX5_init 12 = .ok (.invokespecial 11, 3) := by decide +kernel
theorem dX5_init_15 : decode cX5_init 15 = .ok (.putfield 14, 3) := by decide +kernel
theorem dX5_init_18 : decode cX5_init 18 = .ok (.aload_n 0, 1) := by decide +kernel
theorem dX5_init_19 : decode cX5_init 19 = .ok (.new 20, 3) := by decide +kernel
theorem dX5_init_22 : decode cX5_init 22 = .ok (.dup, 1) := by decide +kernel
theorem dX5_init_23 : decode cX5_init 23 = .ok (.invokespecial 22, 3) := by decide +kernel
theorem dX5_init_26 : decode cX5_init 26 = .ok (.putfield 23, 3) := by decide +kernel
theorem dX5_init_29 : decode cX5_init 29 = .ok (.aload_n 0, 1) := by decide +kernel
theorem dX5_init_30 : decode cX5_init 30 = .ok (.iconst 3, 1) := by decide +kernel
theorem dX5_init_31 : decode cX5_init 31 = .ok (.newarray .int, 2) := by decide +kernel
theorem dX5_init_33 : decode cX5_init 33 = .ok (.putfield 27, 3) := by decide +kernel
theorem dX5_init_36 : decode cX5_init 36 = .ok (.return_, 1) := by decide +kernel
theorem dX5_readAll_0 : decode cX5_readAll 0 = .ok (.aload_n 0, 1) := by decide +kernel
theorem dX5_readAll_1 : decode cX5_readAll 1 = .ok (.getfield 23, 3) := by decide +kernel
theorem dX5_readAll_4 : decode cX5_readAll 4 = .ok (.invokevirtual 31, 3) := by decide +kernel
theorem dX5_readAll_7 : decode cX5_readAll 7 = .ok (.aload_n 0, 1) := by decide +kernel
theorem dX5_readAll_8 : decode cX5_readAll 8 = .ok (.iconst 0, 1) := by decide +kernel
theorem dX5_readAll_9 : decode cX5_readAll 9 = .ok (.putfield 34, 3) := by decide +kernel
theorem dX5_readAll_12 : decode cX5_readAll 12 = .ok (.aload_n 0, 1) := by decide +kernel
theorem dX5_readAll_13 : decode cX5_readAll 13 = .ok (.getfield 14, 3) := by decide +kernel
theorem dX5_readAll_16 : decode cX5_readAll 16 = .ok (.aload_n 1, 1) := by decide +kernel
theorem dX5_readAll_17 : decode cX5_readAll 17 = .ok (.iload_n 2, 1) := by decide +kernel
theorem dX5_readAll_18 : decode cX5_readAll 18 = .ok (.invokevirtual 38, 3) := by decide +kernel
theorem dX5_readAll_21 : decode cX5_readAll 21 = .ok (.iconst 0, 1) := by decide +kernel
theorem dX5_readAll_22 : decode cX5_readAll 22 = .ok (.istore 4, 2) := by decide +kernel
theorem dX5_readAll_24 : decode cX5_readAll 24 = .ok (.iload 4, 2) := by decide +kernel
theorem dX5_readAll_26 : decode cX5_readAll 26 = .ok (.sipush 300, 3) := by decide +kernel
theorem dX5_readAll_29 : decode cX5_readAll 29 = .ok (.if_icmp .gt 77, 3) := by decide +kernel
theorem dX5_readAll_32 : decode cX5_readAll 32 = .ok (.aload_n 0, 1) := by decide +kernel
theorem dX5_readAll_33 : decode cX5_readAll 33 = .ok (.getfield 14, 3) := by decide +kernel
theorem dX5_readAll_36 : decode cX5_readAll 36 = .ok (.invokevirtual 42, 3) := by decide +kernel
theorem dX5_readAll_39 : decode cX5_readAll 39 = .ok (.ifCond .ne 67, 3) := by decide +kernel
theorem dX5_readAll_42 : decode cX5_readAll 42 = .ok (.aload_n 0, 1) := by decide +kernel
theorem dX5_readAll_43 : decode cX5_readAll 43 = .ok (.getfield 14, 3) := by decide +kernel
theorem dX5_readAll_46 : decode cX5_readAll 46 = .ok (.getfield 46, 3) := by decide +kernel
theorem dX5_readAll_49 : decode cX5_readAll 49 = .ok (.bipush 26, 2) := by decide +kernel
theorem dX5_readAll_51 : decode cX5_readAll 51 = .ok (.if_icmp .ne 10, 3) := by decide +kernel
theorem dX5_readAll_54 : decode cX5_readAll 54 = .ok (.aload_n 0, 1) := by decide +kernel
theorem dX5_readAll_55 : decode cX5_readAll 55 = .ok (.invokevirtual 49, 3) := by decide +kernel
theorem dX5_readAll_58 : decode cX5_readAll 58 = .ok (.goto 23, 3) := by decide +kernel
theorem dX5_readAll_61 : decode cX5_readAll 61 = .ok (.aload_n 0, 1) := by decide +kernel
theorem dX5_readAll_62 : decode cX5_readAll 62 = .ok (.invokevirtual 52, 3) := by decide +kernel
theorem dX5_readAll_65 : decode cX5_readAll 65 = .ok (.ifCond .eq 15, 3) := by decide +kernel
theorem dX5_readAll_68 : decode cX5_readAll 68 = .ok (.aload_n 0, 1) := by decide +kernel
theorem dX5_readAll_69 : decode cX5_readAll 69 = .ok (.aload_n 3, 1) := by decide +kernel
theorem dX5_readAll_70 : decode cX5_readAll 70 = .ok (.invokevirtual 55, 3) := by decide +kernel
theorem dX5_readAll_73 : decode cX5_readAll 73 = .ok (.ifCond .eq 7, 3) := by decide +kernel
theorem dX5_readAll_76 : decode cX5_readAll 76 = .ok (.iconst 1, 1) := by decide +kernel
theorem dX5_readAll_77 : decode cX5_readAll 77 = .ok (.goto 4, 3) := by decide +kernel
theorem dX5_readAll_80 : decode cX5_readAll 80 = .ok (.iconst 0, 1) := by decide +kernel
theorem dX5_readAll_81 : decode cX5_readAll 81 = .ok (.istore 5, 2) := by decide +kernel
theorem dX5_readAll_83 : decode cX5_readAll 83 = .ok (.iload 5, 2) := by decide +kernel
theorem dX5_readAll_85 : decode cX5_readAll 85 = .ok (.ifCond .eq 13, 3) := by decide +kernel
theorem dX5_readAll_88 : decode cX5_readAll 88 = .ok (.aload_n 0, 1) := by decide +kernel
theorem dX5_readAll_89 : decode cX5_readAll 89 = .ok (.getfield 14, 3) := by decide +kernel
theorem dX5_readAll_92 : decode cX5_readAll 92 = .ok (.invokevirtual 59, 3) := by decide +kernel
theorem dX5_readAll_95 : decode cX5_readAll 95 = .ok (.ifCond .ne 5, 3) := by decide +kernel
theorem dX5_readAll_98 : decode cX5_readAll 98 = .ok (.iconst 0, 1) := by decide +kernel
theorem dX5_readAll_99 : decode cX5_readAll 99 = .ok (.ireturn, 1) := by decide +kernel
theorem dX5_readAll_100 : decode cX5_readAll 100 = .ok (.iinc 4 1, 3) := by decide +kernel
theorem dX5_readAll_103 : decode cX5_readAll 103 = .ok (.goto (-79), 3) := by decide +kernel
theorem dX5_readAll_106 : decode cX5_readAll 106 = .ok (.aload_n 0, 1) := by decide +kernel
theorem dX5_readAll_107 : decode cX5_readAll 107 = .ok (.getfield 34, 3) := by decide +kernel
theorem dX5_readAll_110 : decode cX5_readAll 110 = .ok (.ifCond .le 12, 3) := by decide +kernel
theorem dX5_readAll_113 : decode cX5_readAll 113 = .ok (.aload_n 0, 1) := by decide +kernel
theorem dX5_readAll_114 : decode cX5_readAll 114 = .ok (.getfield 14, 3) := by decide +kernel
theorem dX5_readAll_117 : decode cX5_readAll 117 = .ok (.iconst 2, 1) := by decide +kernel
theorem dX5_readAll_118 : decode cX5_readAll 118 = .ok (.invokevirtual 62, 3) := by decide +kernel
theorem dX5_readAll_121 : decode cX5_readAll 121 = .ok (.ireturn, 1) := by decide +kernel
theorem dX5_readAll_122 : decode cX5_readAll 122 = .ok (.aload_n 0, 1) := by decide +kernel
theorem dX5_readAll_123 : decode cX5_readAll 123 = .ok (.getfield 23, 3) := by decide +kernel
theorem dX5_readAll_126 : decode cX5_readAll 126 = .ok (.iconst 1, 1) := by decide +kernel
theorem dX5_readAll_127 : decode cX5_readAll 127 = .ok (.putfield 66, 3) := by decide +kernel
theorem dX5_readAll_130 : decode cX5_readAll 130 = .ok (.iconst 1, 1) := by decide +kernel
theorem dX5_readAll_131 : decode cX5_readAll 131 = .ok (.ireturn, 1) := by decide +kernel
theorem dX5_mayBegin_0 : decode cX5_mayBegin 0 = .ok (.aload_n 0, 1) := by decide +kernel
theorem dX5_mayBegin_1 : decode cX5_mayBegin 1 = .ok (.getfield 14, 3) := by decide +kernel
theorem dX5_mayBegin_4 : decode cX5_mayBegin 4 = .ok (.getfield 46, 3) := by decide +kernel
theorem dX5_mayBegin_7 : decode cX5_mayBegin 7 = .ok (.invokestatic 70, 3) := by decide +kernel
theorem dX5_mayBegin_10 : decode cX5_mayBegin 10 = .ok (.ifCond .ne 12, 3) := by decide +kernel
theorem dX5_mayBegin_13 : decode cX5_mayBegin 13 = .ok (.aload_n 0, 1) := by decide +kernel
theorem dX5_mayBegin_14 : decode cX5_mayBegin 14 = .ok (.getfield 14, 3) := by decide +kernel
theorem dX5_mayBegin_17 : decode cX5_mayBegin 17 = .ok (.iconst 2, 1) := by decide +kernel
theorem dX5_mayBegin_18 : decode cX5_mayBegin 18 = .ok (.invokevirtual 62, 3) := by decide +kernel
theorem dX5_mayBegin_21 : decode cX5_mayBegin 21 = .ok (.ireturn, 1) := by decide +kernel
theorem dX5_mayBegin_22 : decode cX5_mayBegin 22 = .ok (.aload_n 0, 1) := by decide +kernel
theorem dX5_mayBegin_23 : decode cX5_mayBegin 23 = .ok (.getfield 23, 3) := by decide +kernel
theorem dX5_mayBegin_26 : decode cX5_mayBegin 26 = .ok (.getfield 73, 3) := by decide +kernel
theorem dX5_mayBegin_29 : decode cX5_mayBegin 29 = .ok (.bipush 30, 2) := by decide +kernel
theorem dX5_mayBegin_31 : decode cX5_mayBegin 31 = .ok (.if_icmp .lt 13, 3) := by decide +kernel
theorem dX5_mayBegin_34 : decode cX5_mayBegin 34 = .ok (.aload_n 0, 1) := by decide +kernel
theorem dX5_mayBegin_35 : decode cX5_mayBegin 35 = .ok (.getfield 14, 3) := by decide +kernel
theorem dX5_mayBegin_38 : decode cX5_mayBegin 38 = .ok (.bipush 6, 2) := by decide +kernel
theorem dX5_mayBegin_40 : decode cX5_mayBegin 40 = .ok (.invokevirtual 62, 3) := by decide +kernel
theorem dX5_mayBegin_43 : decode cX5_mayBegin 43 = .ok (.ireturn, 1) := by decide +kernel
theorem dX5_mayBegin_44 : decode cX5_mayBegin 44 = .ok (.aload_n 0, 1) := by decide +kernel
theorem dX5_mayBegin_45 : decode cX5_mayBegin 45 = .ok (.getfield 23, 3) := by decide +kernel
theorem dX5_mayBegin_48 : decode cX5_mayBegin 48 = .ok (.dup, 1) := by decide +kernel
theorem dX5_mayBegin_49 : decode cX5_mayBegin 49 = .ok (.getfield 73, 3) := by decide +kernel
theorem dX5_mayBegin_52 : decode cX5_mayBegin 52 = .ok (.iconst 1, 1) := by decide +kernel
theorem dX5_mayBegin_53 : decode cX5_mayBegin 53 = .ok (.iadd, 1) := by decide +kernel
theorem dX5_mayBegin_54 : decode cX5_mayBegin 54 = .ok (.putfield 73, 3) := by decide +kernel
theorem dX5_mayBegin_57 : decode cX5_mayBegin 57 = .ok (.aload_n 0, 1) := by decide +kernel
theorem dX5_mayBegin_58 : decode cX5_mayBegin 58 = .ok (.getfield 14, 3) := by decide +kernel
theorem dX5_mayBegin_61 : decode cX5_mayBegin 61 = .ok (.getfield 46, 3) := by decide +kernel
theorem dX5_mayBegin_64 : decode cX5_mayBegin 64 = .ok (.bipush 22, 2) := by decide +kernel
theorem dX5_mayBegin_66 : decode cX5_mayBegin 66 = .ok (.if_icmp .eq 15, 3) := by decide +kernel
theorem dX5_mayBegin_69 : decode cX5_mayBegin 69 = .ok (.aload_n 0, 1) := by decide +kernel
theorem dX5_mayBegin_70 : decode cX5_mayBegin 70 = .ok (.getfield 14, 3) := by decide +kernel
theorem dX5_mayBegin_73 : decode cX5_mayBegin 73 = .ok (.getfield 46, 3) := by decide +kernel
theorem dX5_mayBegin_76 : decode cX5_mayBegin 76 = .ok (.bipush 25, 2) := by decide +kernel
theorem dX5_mayBegin_78 : decode cX5_mayBegin 78 = .ok (.if_icmp .ne 10, 3) := by decide +kernel
theorem dX5_mayBegin_81 : decode cX5_mayBegin 81 = .ok (.aload_n 0, 1) := by decide +kernel
theorem dX5_mayBegin_82 : decode cX5_mayBegin 82 = .ok (.invokevirtual 76, 3) := by decide +kernel
theorem dX5_mayBegin_85 : decode cX5_mayBegin 85 = .ok (.ifCond .eq 7, 3) := by decide +kernel
theorem dX5_mayBegin_88 : decode cX5_mayBegin 88 = .ok (.iconst 1, 1) := by decide +kernel
theorem dX5_mayBegin_89 : decode cX5_mayBegin 89 = .ok (.goto 4, 3) := by decide +kernel
theorem dX5_mayBegin_92 : decode cX5_mayBegin 92 = .ok (.iconst 0, 1) := by decide +kernel
theorem dX5_mayBegin_93 : decode cX5_mayBegin 93 = .ok (.ireturn, 1) := by decide +kernel
theorem dX5_goWithin_0 : decode cX5_goWithin 0 = .ok (.aload_n 0, 1) := by decide +kernel
theorem dX5_goWithin_1 : decode cX5_goWithin 1 = .ok (.getfield 34, 3) := by decide +kernel
theorem dX5_goWithin_4 : decode cX5_goWithin 4 = .ok (.iconst 3, 1) := by decide +kernel
theorem dX5_goWithin_5 : decode cX5_goWithin 5 = .ok (.if_icmp .lt 13, 3) := by decide +kernel
theorem dX5_goWithin_8 : decode cX5_goWithin 8 = .ok (.aload_n 0, 1) := by decide +kernel
theorem dX5_goWithin_9 : decode cX5_goWithin 9 = .ok (.getfield 14, 3) := by decide +kernel
theorem dX5_goWithin_12 : decode cX5_goWithin 12 = .ok (.bipush 7, 2) := by decide +kernel
theorem dX5_goWithin_14 : decode cX5_goWithin 14 = .ok (.invokevirtual 62, 3) := by decide +kernel
theorem dX5_goWithin_17 : decode cX5_goWithin 17 = .ok (.ireturn, 1) := by decide +kernel
theorem dX5_goWithin_18 : decode cX5_goWithin 18 = .ok (.aload_n 0, 1) := by decide +kernel
theorem dX5_goWithin_19 : decode cX5_goWithin 19 = .ok (.getfield 27, 3) := by decide +kernel
theorem dX5_goWithin_22 : decode cX5_goWithin 22 = .ok (.aload_n 0, 1) := by decide +kernel
theorem dX5_goWithin_23 : decode cX5_goWithin 23 = .ok (.getfield 34, 3) := by decide +kernel
theorem dX5_goWithin_26 : decode cX5_goWithin 26 = .ok (.aload_n 0, 1) := by decide +kernel
theorem dX5_goWithin_27 : decode cX5_goWithin 27 = .ok (.getfield 23, 3) := by decide +kernel
theorem dX5_goWithin_30 : decode cX5_goWithin 30 = .ok (.getfield 79, 3) := by decide +kernel
theorem dX5_goWithin_33 : decode cX5_goWithin 33 = .ok (.iastore, 1) := by decide +kernel
theorem dX5_goWithin_34 : decode cX5_goWithin 34 = .ok (.aload_n 0, 1) := by decide +kernel
theorem dX5_goWithin_35 : decode cX5_goWithin 35 = .ok (.dup, 1) := by decide +kernel
theorem dX5_goWithin_36 : decode cX5_goWithin 36 = .ok (.getfield 34, 3) := by decide +kernel
theorem dX5_goWithin_39 : decode cX5_goWithin 39 = .ok (.iconst 1, 1) := by decide +kernel
theorem dX5_goWithin_40 : decode cX5_goWithin 40 = .ok (.iadd, 1) := by decide +kernel
theorem dX5_goWithin_41 : decode cX5_goWithin 41 = .ok (.putfield 34, 3) := by decide +kernel
theorem dX5_goWithin_44 : decode cX5_goWithin 44 = .ok (.iconst 1, 1) := by decide +kernel
theorem dX5_goWithin_45 : decode cX5_goWithin 45 = .ok (.ireturn, 1) := by decide +kernel
theorem dX5_beginsStep_0 : decode cX5_beginsStep 0 = .ok (.iload_n 0, 1) := by decide +kernel
theorem dX5_beginsStep_1 : decode cX5_beginsStep 1 = .ok (.tableswitch 61 17 27 #[59, 59, 59, 59, 59, 59, 61, 61, 59, 61, 59], 59) := by decide +kernel
theorem dX5_beginsStep_60 : decode cX5_beginsStep 60 = .ok (.iconst 1, 1) := by decide +kernel
theorem dX5_beginsStep_61 : decode cX5_beginsStep 61 = .ok (.ireturn, 1) := by decide +kernel
theorem dX5_beginsStep_62 : decode cX5_beginsStep 62 = .ok (.iconst 0, 1) := by decide +kernel
theorem dX5_beginsStep_63 : decode cX5_beginsStep 63 = .ok (.ireturn, 1) := by decide +kernel
theorem dX5_readEnd_0 : decode cX5_readEnd 0 = .ok (.aload_n 0, 1) := by decide +kernel
theorem dX5_readEnd_1 : decode cX5_readEnd 1 = .ok (.getfield 34, 3) := by decide +kernel
theorem dX5_readEnd_4 : decode cX5_readEnd 4 = .ok (.ifCond .le 11, 3) := by decide +kernel
theorem dX5_readEnd_7 : decode cX5_readEnd 7 = .ok (.aload_n 0, 1) := by decide +kernel
theorem dX5_readEnd_8 : decode cX5_readEnd 8 = .ok (.getfield 34, 3) := by decide +kernel
theorem dX5_readEnd_11 : decode cX5_readEnd 11 = .ok (.iconst 3, 1) := by decide +kernel
theorem dX5_readEnd_12 : decode cX5_readEnd 12 = .ok (.if_icmp .le 12, 3) := by decide +kernel
theorem dX5_readEnd_15 : decode cX5_readEnd 15 = .ok (.aload_n 0, 1) := by decide +kernel
theorem dX5_readEnd_16 : decode cX5_readEnd 16 = .ok (.getfield 14, 3) := by decide +kernel
theorem dX5_readEnd_19 : decode cX5_readEnd 19 = .ok (.iconst 2, 1) := by decide +kernel
theorem dX5_readEnd_20 : decode cX5_readEnd 20 = .ok (.invokevirtual 62, 3) := by decide +kernel
theorem dX5_readEnd_23 : decode cX5_readEnd 23 = .ok (.ireturn, 1) := by decide +kernel
theorem dX5_readEnd_24 : decode cX5_readEnd 24 = .ok (.aload_n 0, 1) := by decide +kernel
theorem dX5_readEnd_25 : decode cX5_readEnd 25 = .ok (.getfield 14, 3) := by decide +kernel
theorem dX5_readEnd_28 : decode cX5_readEnd 28 = .ok (.invokevirtual 82, 3) := by decide +kernel
theorem dX5_readEnd_31 : decode cX5_readEnd 31 = .ok (.aload_n 0, 1) := by decide +kernel
theorem dX5_readEnd_32 : decode cX5_readEnd 32 = .ok (.dup, 1) := by decide +kernel
theorem dX5_readEnd_33 : decode cX5_readEnd 33 = .ok (.getfield 34, 3) := by decide +kernel
theorem dX5_readEnd_36 : decode cX5_readEnd 36 = .ok (.iconst 1, 1) := by decide +kernel
theorem dX5_readEnd_37 : decode cX5_readEnd 37 = .ok (.isub, 1) := by decide +kernel
theorem dX5_readEnd_38 : decode cX5_readEnd 38 = .ok (.putfield 34, 3) := by decide +kernel
theorem dX5_readEnd_41 : decode cX5_readEnd 41 = .ok (.aload_n 0, 1) := by decide +kernel
theorem dX5_readEnd_42 : decode cX5_readEnd 42 = .ok (.getfield 23, 3) := by decide +kernel
theorem dX5_readEnd_45 : decode cX5_readEnd 45 = .ok (.bipush 12, 2) := by decide +kernel
theorem dX5_readEnd_47 : decode cX5_readEnd 47 = .ok (.iconst (-1), 1) := by decide +kernel
theorem dX5_readEnd_48 : decode cX5_readEnd 48 = .ok (.iconst 0, 1) := by decide +kernel
theorem dX5_readEnd_49 : decode cX5_readEnd 49 = .ok (.invokevirtual 85, 3) := by decide +kernel
theorem dX5_readEnd_52 : decode cX5_readEnd 52 = .ok (.aload_n 0, 1) := by decide +kernel
theorem dX5_readEnd_53 : decode cX5_readEnd 53 = .ok (.getfield 23, 3) := by decide +kernel
theorem dX5_readEnd_56 : decode cX5_readEnd 56 = .ok (.aload_n 0, 1) := by decide +kernel
theorem dX5_readEnd_57 : decode cX5_readEnd 57 = .ok (.getfield 27, 3) := by decide +kernel
theorem dX5_readEnd_60 : decode cX5_readEnd 60 = .ok (.aload_n 0, 1) := by decide +kernel
theorem dX5_readEnd_61 : decode cX5_readEnd 61 = .ok (.getfield 34, 3) := by decide +kernel
theorem dX5_readEnd_64 : decode cX5_readEnd 64 = .ok (.iaload, 1) := by decide +kernel
theorem dX5_readEnd_65 : decode cX5_readEnd 65 = .ok (.aload_n 0, 1) := by decide +kernel
theorem dX5_readEnd_66 : decode cX5_readEnd 66 = .ok (.getfield 23, 3) := by decide +kernel
theorem dX5_readEnd_69 : decode cX5_readEnd 69 = .ok (.getfield 79, 3) := by decide +kernel
theorem dX5_readEnd_72 : decode cX5_readEnd 72 = .ok (.iconst 1, 1) := by decide +kernel
theorem dX5_readEnd_73 : decode cX5_readEnd 73 = .ok (.isub, 1) := by decide +kernel
theorem dX5_readEnd_74 : decode cX5_readEnd 74 = .ok (.invokevirtual 89, 3) := by decide +kernel
theorem dX5_readEnd_77 : decode cX5_readEnd 77 = .ok (.iconst 1, 1) := by decide +kernel
theorem dX5_readEnd_78 : decode cX5_readEnd 78 = .ok (.ireturn, 1) := by decide +kernel
theorem dX5_readStep_0 : decode cX5_readStep 0 = .ok (.aload_n 0, 1) := by decide +kernel
theorem dX5_readStep_1 : decode cX5_readStep 1 = .ok (.getfield 14, 3) := by decide +kernel
theorem dX5_readStep_4 : decode cX5_readStep 4 = .ok (.getfield 46, 3) := by decide +kernel
theorem dX5_readStep_7 : decode cX5_readStep 7 = .ok (.istore_n 2, 1) := by decide +kernel
theorem dX5_readStep_8 : decode cX5_readStep 8 = .ok (.aload_n 0, 1) := by decide +kernel
theorem dX5_readStep_9 : decode cX5_readStep 9 = .ok (.getfield 14, 3) := by decide +kernel
theorem dX5_readStep_12 : decode cX5_readStep 12 = .ok (.invokevirtual 82, 3) := by decide +kernel
theorem dX5_readStep_15 : decode cX5_readStep 15 = .ok (.iload_n 2, 1) := by decide +kernel
theorem dX5_readStep_16 : decode cX5_readStep 16 = .ok (.tableswitch 101 17 25 #[52, 60, 67, 74, 80, 86, 101, 101, 92], 52) := by decide +kernel
theorem dX5_readStep_68 : decode cX5_readStep 68 = .ok (.aload_n 0, 1) := by decide +kernel
theorem dX5_readStep_69 : decode cX5_readStep 69 = .ok (.iconst 0, 1) := by decide +kernel
theorem dX5_readStep_70 : decode cX5_readStep 70 = .ok (.bipush 12, 2) := by decide +kernel
theorem dX5_readStep_72 : decode cX5_readStep 72 = .ok (.invokevirtual 93, 3) := by decide +kernel
theorem dX5_readStep_75 : decode cX5_readStep 75 = .ok (.ireturn, 1) := by decide +kernel
theorem dX5_readStep_76 : decode cX5_readStep 76 = .ok (.aload_n 0, 1) := by decide +kernel
theorem dX5_readStep_77 : decode cX5_readStep 77 = .ok (.iconst 1, 1) := by decide +kernel
theorem dX5_readStep_78 : decode cX5_readStep 78 = .ok (.aload_n 1, 1) := by decide +kernel
theorem dX5_readStep_79 : decode cX5_readStep 79 = .ok (.invokevirtual 97, 3) := by decide +kernel
theorem dX5_readStep_82 : decode cX5_readStep 82 = .ok (.ireturn, 1) := by decide +kernel
theorem dX5_readStep_83 : decode cX5_readStep 83 = .ok (.aload_n 0, 1) := by decide +kernel
theorem dX5_readStep_84 : decode cX5_readStep 84 = .ok (.iconst 2, 1) := by decide +kernel
theorem dX5_readStep_85 : decode cX5_readStep 85 = .ok (.aload_n 1, 1) := by decide +kernel
theorem dX5_readStep_86 : decode cX5_readStep 86 = .ok (.invokevirtual 97, 3) := by decide +kernel
theorem dX5_readStep_89 : decode cX5_readStep 89 = .ok (.ireturn, 1) := by decide +kernel
theorem dX5_readStep_90 : decode cX5_readStep 90 = .ok (.aload_n 0, 1) := by decide +kernel
theorem dX5_readStep_91 : decode cX5_readStep 91 = .ok (.aload_n 1, 1) := by decide +kernel
theorem dX5_readStep_92 : decode cX5_readStep 92 = .ok (.invokevirtual 101, 3) := by decide +kernel
theorem dX5_readStep_95 : decode cX5_readStep 95 = .ok (.ireturn, 1) := by decide +kernel
theorem dX5_readStep_96 : decode cX5_readStep 96 = .ok (.aload_n 0, 1) := by decide +kernel
theorem dX5_readStep_97 : decode cX5_readStep 97 = .ok (.iconst 4, 1) := by decide +kernel
theorem dX5_readStep_98 : decode cX5_readStep 98 = .ok (.invokevirtual 104, 3) := by decide +kernel
theorem dX5_readStep_101 : decode cX5_readStep 101 = .ok (.ireturn, 1) := by decide +kernel
theorem dX5_readStep_102 : decode cX5_readStep 102 = .ok (.aload_n 0, 1) := by decide +kernel
theorem dX5_readStep_103 : decode cX5_readStep 103 = .ok (.aload_n 1, 1) := by decide +kernel
theorem dX5_readStep_104 : decode cX5_readStep 104 = .ok (.invokevirtual 107, 3) := by decide +kernel
theorem dX5_readStep_107 : decode cX5_readStep 107 = .ok (.ireturn, 1) := by decide +kernel
theorem dX5_readStep_108 : decode cX5_readStep 108 = .ok (.aload_n 0, 1) := by decide +kernel
theorem dX5_readStep_109 : decode cX5_readStep 109 = .ok (.bipush 10, 2) := by decide +kernel
theorem dX5_readStep_111 : decode cX5_readStep 111 = .ok (.bipush 99, 2) := by decide +kernel
theorem dX5_readStep_113 : decode cX5_readStep 113 = .ok (.invokevirtual 93, 3) := by decide +kernel
theorem dX5_readStep_116 : decode cX5_readStep 116 = .ok (.ireturn, 1) := by decide +kernel
theorem dX5_readStep_117 : decode cX5_readStep 117 = .ok (.aload_n 0, 1) := by decide +kernel
theorem dX5_readStep_118 : decode cX5_readStep 118 = .ok (.bipush 11, 2) := by decide +kernel
theorem dX5_readStep_120 : decode cX5_readStep 120 = .ok (.invokevirtual 104, 3) := by decide +kernel
theorem dX5_readStep_123 : decode cX5_readStep 123 = .ok (.ireturn, 1) := by decide +kernel
theorem dX5_addBare_0 : decode cX5_addBare 0 = .ok (.aload_n 0, 1) := by decide +kernel
theorem dX5_addBare_1 : decode cX5_addBare 1 = .ok (.getfield 23, 3) := by decide +kernel
theorem dX5_addBare_4 : decode cX5_addBare 4 = .ok (.iload_n 1, 1) := by decide +kernel
theorem dX5_addBare_5 : decode cX5_addBare 5 = .ok (.iconst (-1), 1) := by decide +kernel
theorem dX5_addBare_6 : decode cX5_addBare 6 = .ok (.iconst 0, 1) := by decide +kernel
theorem dX5_addBare_7 : decode cX5_addBare 7 = .ok (.invokevirtual 85, 3) := by decide +kernel
theorem dX5_addBare_10 : decode cX5_addBare 10 = .ok (.iconst 1, 1) := by decide +kernel
theorem dX5_addBare_11 : decode cX5_addBare 11 = .ok (.ireturn, 1) := by decide +kernel
theorem dX5_addNumber_0 : decode cX5_addNumber 0 = .ok (.aload_n 0, 1) := by decide +kernel
theorem dX5_addNumber_1 : decode cX5_addNumber 1 = .ok (.getfield 14, 3) := by decide +kernel
theorem dX5_addNumber_4 : decode cX5_addNumber 4 = .ok (.iconst 1, 1) := by decide +kernel
theorem dX5_addNumber_5 : decode cX5_addNumber 5 = .ok (.iload_n 2, 1) := by decide +kernel
theorem dX5_addNumber_6 : decode cX5_addNumber 6 = .ok (.invokevirtual 110, 3) := by decide +kernel
theorem dX5_addNumber_9 : decode cX5_addNumber 9 = .ok (.istore_n 3, 1) := by decide +kernel
theorem dX5_addNumber_10 : decode cX5_addNumber 10 = .ok (.aload_n 0, 1) := by decide +kernel
theorem dX5_addNumber_11 : decode cX5_addNumber 11 = .ok (.getfield 23, 3) := by decide +kernel
theorem dX5_addNumber_14 : decode cX5_addNumber 14 = .ok (.iload_n 1, 1) := by decide +kernel
theorem dX5_addNumber_15 : decode cX5_addNumber 15 = .ok (.iconst (-1), 1) := by decide +kernel
theorem dX5_addNumber_16 : decode cX5_addNumber 16 = .ok (.iload_n 3, 1) := by decide +kernel
theorem dX5_addNumber_17 : decode cX5_addNumber 17 = .ok (.invokevirtual 85, 3) := by decide +kernel
theorem dX5_addNumber_20 : decode cX5_addNumber 20 = .ok (.iload_n 3, 1) := by decide +kernel
theorem dX5_addNumber_21 : decode cX5_addNumber 21 = .ok (.iconst (-1), 1) := by decide +kernel
theorem dX5_addNumber_22 : decode cX5_addNumber 22 = .ok (.if_icmp .eq 7, 3) := by decide +kernel
theorem dX5_addNumber_25 : decode cX5_addNumber 25 = .ok (.iconst 1, 1) := by decide +kernel
theorem dX5_addNumber_26 : decode cX5_addNumber 26 = .ok (.goto 4, 3) := by decide +kernel
theorem dX5_addNumber_29 : decode cX5_addNumber 29 = .ok (.iconst 0, 1) := by decide +kernel
theorem dX5_addNumber_30 : decode cX5_addNumber 30 = .ok (.ireturn, 1) := by decide +kernel
theorem dX5_addDoor_0 : decode cX5_addDoor 0 = .ok (.aload_n 0, 1) := by decide +kernel
theorem dX5_addDoor_1 : decode cX5_addDoor 1 = .ok (.getfield 14, 3) := by decide +kernel
theorem dX5_addDoor_4 : decode cX5_addDoor 4 = .ok (.aload_n 2, 1) := by decide +kernel
theorem dX5_addDoor_5 : decode cX5_addDoor 5 = .ok (.invokevirtual 114, 3) := by decide +kernel
theorem dX5_addDoor_8 : decode cX5_addDoor 8 = .ok (.istore_n 3, 1) := by decide +kernel
theorem dX5_addDoor_9 : decode cX5_addDoor 9 = .ok (.aload_n 0, 1) := by decide +kernel
theorem dX5_addDoor_10 : decode cX5_addDoor 10 = .ok (.getfield 23, 3) := by decide +kernel
theorem dX5_addDoor_13 : decode cX5_addDoor 13 = .ok (.iload_n 1, 1) := by decide +kernel
theorem dX5_addDoor_14 : decode cX5_addDoor 14 = .ok (.iload_n 3, 1) := by decide +kernel
theorem dX5_addDoor_15 : decode cX5_addDoor 15 = .ok (.iconst 0, 1) := by decide +kernel
theorem dX5_addDoor_16 : decode cX5_addDoor 16 = .ok (.invokevirtual 85, 3) := by decide +kernel
theorem dX5_addDoor_19 : decode cX5_addDoor 19 = .ok (.iload_n 3, 1) := by decide +kernel
theorem dX5_addDoor_20 : decode cX5_addDoor 20 = .ok (.iconst (-1), 1) := by decide +kernel
theorem dX5_addDoor_21 : decode cX5_addDoor 21 = .ok (.if_icmp .eq 7, 3) := by decide +kernel
theorem dX5_addDoor_24 : decode cX5_addDoor 24 = .ok (.iconst 1, 1) := by decide +kernel
theorem dX5_addDoor_25 : decode cX5_addDoor 25 = .ok (.goto 4, 3) := by decide +kernel
theorem dX5_addDoor_28 : decode cX5_addDoor 28 = .ok (.iconst 0, 1) := by decide +kernel
theorem dX5_addDoor_29 : decode cX5_addDoor 29 = .ok (.ireturn, 1) := by decide +kernel
theorem dX5_addBail_0 : decode cX5_addBail 0 = .ok (.aload_n 0, 1) := by decide +kernel
theorem dX5_addBail_1 : decode cX5_addBail 1 = .ok (.getfield 14, 3) := by decide +kernel
theorem dX5_addBail_4 : decode cX5_addBail 4 = .ok (.aload_n 1, 1) := by decide +kernel
theorem dX5_addBail_5 : decode cX5_addBail 5 = .ok (.invokevirtual 118, 3) := by decide +kernel
theorem dX5_addBail_8 : decode cX5_addBail 8 = .ok (.istore_n 2, 1) := by decide +kernel
theorem dX5_addBail_9 : decode cX5_addBail 9 = .ok (.iload_n 2, 1) := by decide +kernel
theorem dX5_addBail_10 : decode cX5_addBail 10 = .ok (.iconst (-1), 1) := by decide +kernel
theorem dX5_addBail_11 : decode cX5_addBail 11 = .ok (.if_icmp .ne 5, 3) := by decide +kernel
theorem dX5_addBail_14 : decode cX5_addBail 14 = .ok (.iconst 0, 1) := by decide +kernel
theorem dX5_addBail_15 : decode cX5_addBail 15 = .ok (.ireturn, 1) := by decide +kernel
theorem dX5_addBail_16 : decode cX5_addBail 16 = .ok (.aload_n 0, 1) := by decide +kernel
theorem dX5_addBail_17 : decode cX5_addBail 17 = .ok (.getfield 14, 3) := by decide +kernel
theorem dX5_addBail_20 : decode cX5_addBail 20 = .ok (.iconst 1, 1) := by decide +kernel
theorem dX5_addBail_21 : decode cX5_addBail 21 = .ok (.sipush 999, 3) := by decide +kernel
theorem dX5_addBail_24 : decode cX5_addBail 24 = .ok (.invokevirtual 110, 3) := by decide +kernel
theorem dX5_addBail_27 : decode cX5_addBail 27 = .ok (.istore_n 3, 1) := by decide +kernel
theorem dX5_addBail_28 : decode cX5_addBail 28 = .ok (.aload_n 0, 1) := by decide +kernel
theorem dX5_addBail_29 : decode cX5_addBail 29 = .ok (.getfield 23, 3) := by decide +kernel
theorem dX5_addBail_32 : decode cX5_addBail 32 = .ok (.iconst 3, 1) := by decide +kernel
theorem dX5_addBail_33 : decode cX5_addBail 33 = .ok (.iload_n 2, 1) := by decide +kernel
theorem dX5_addBail_34 : decode cX5_addBail 34 = .ok (.iload_n 3, 1) := by decide +kernel
theorem dX5_addBail_35 : decode cX5_addBail 35 = .ok (.invokevirtual 85, 3) := by decide +kernel
theorem dX5_addBail_38 : decode cX5_addBail 38 = .ok (.iload_n 3, 1) := by decide +kernel
theorem dX5_addBail_39 : decode cX5_addBail 39 = .ok (.iconst (-1), 1) := by decide +kernel
theorem dX5_addBail_40 : decode cX5_addBail 40 = .ok (.if_icmp .eq 7, 3) := by decide +kernel
theorem dX5_addBail_43 : decode cX5_addBail 43 = .ok (.iconst 1, 1) := by decide +kernel
theorem dX5_addBail_44 : decode cX5_addBail 44 = .ok (.goto 4, 3) := by decide +kernel
theorem dX5_addBail_47 : decode cX5_addBail 47 = .ok (.iconst 0, 1) := by decide +kernel
theorem dX5_addBail_48 : decode cX5_addBail 48 = .ok (.ireturn, 1) := by decide +kernel
theorem dX5_readTest_0 : decode cX5_readTest 0 = .ok (.aload_n 0, 1) := by decide +kernel
theorem dX5_readTest_1 : decode cX5_readTest 1 = .ok (.getfield 14, 3) := by decide +kernel
theorem dX5_readTest_4 : decode cX5_readTest 4 = .ok (.getfield 46, 3) := by decide +kernel
theorem dX5_readTest_7 : decode cX5_readTest 7 = .ok (.istore_n 2, 1) := by decide +kernel
theorem dX5_readTest_8 : decode cX5_readTest 8 = .ok (.iload_n 2, 1) := by decide +kernel
theorem dX5_readTest_9 : decode cX5_readTest 9 = .ok (.bipush 23, 2) := by decide +kernel
theorem dX5_readTest_11 : decode cX5_readTest 11 = .ok (.if_icmp .eq 24, 3) := by decide +kernel
theorem dX5_readTest_14 : decode cX5_readTest 14 = .ok (.iload_n 2, 1) := by decide +kernel
theorem dX5_readTest_15 : decode cX5_readTest 15 = .ok (.bipush 18, 2) := by decide +kernel
theorem dX5_readTest_17 : decode cX5_readTest 17 = .ok (.if_icmp .eq 18, 3) := by decide +kernel
theorem dX5_readTest_20 : decode cX5_readTest 20 = .ok (.iload_n 2, 1) := by decide +kernel
theorem dX5_readTest_21 : decode cX5_readTest 21 = .ok (.bipush 24, 2) := by decide +kernel
theorem dX5_readTest_23 : decode cX5_readTest 23 = .ok (.if_icmp .eq 12, 3) := by decide +kernel
theorem dX5_readTest_26 : decode cX5_readTest 26 = .ok (.aload_n 0, 1) := by decide +kernel
theorem dX5_readTest_27 : decode cX5_readTest 27 = .ok (.getfield 14, 3) := by decide +kernel
theorem dX5_readTest_30 : decode cX5_readTest 30 = .ok (.iconst 2, 1) := by decide +kernel
theorem dX5_readTest_31 : decode cX5_readTest 31 = .ok (.invokevirtual 62, 3) := by decide +kernel
theorem dX5_readTest_34 : decode cX5_readTest 34 = .ok (.ireturn, 1) := by decide +kernel
theorem dX5_readTest_35 : decode cX5_readTest 35 = .ok (.aload_n 0, 1) := by decide +kernel
theorem dX5_readTest_36 : decode cX5_readTest 36 = .ok (.getfield 14, 3) := by decide +kernel
theorem dX5_readTest_39 : decode cX5_readTest 39 = .ok (.invokevirtual 82, 3) := by decide +kernel
theorem dX5_readTest_42 : decode cX5_readTest 42 = .ok (.iload_n 2, 1) := by decide +kernel
theorem dX5_readTest_43 : decode cX5_readTest 43 = .ok (.bipush 18, 2) := by decide +kernel
theorem dX5_readTest_45 : decode cX5_readTest 45 = .ok (.if_icmp .ne 11, 3) := by decide +kernel
theorem dX5_readTest_48 : decode cX5_readTest 48 = .ok (.aload_n 0, 1) := by decide +kernel
theorem dX5_readTest_49 : decode cX5_readTest 49 = .ok (.bipush 6, 2) := by decide +kernel
theorem dX5_readTest_51 : decode cX5_readTest 51 = .ok (.aload_n 1, 1) := by decide +kernel
theorem dX5_readTest_52 : decode cX5_readTest 52 = .ok (.invokevirtual 97, 3) := by decide +kernel
theorem dX5_readTest_55 : decode cX5_readTest 55 = .ok (.ireturn, 1) := by decide +kernel
theorem dX5_readTest_56 : decode cX5_readTest 56 = .ok (.aload_n 0, 1) := by decide +kernel
theorem dX5_readTest_57 : decode cX5_readTest 57 = .ok (.getfield 14, 3) := by decide +kernel
theorem dX5_readTest_60 : decode cX5_readTest 60 = .ok (.aload_n 1, 1) := by decide +kernel
theorem dX5_readTest_61 : decode cX5_readTest 61 = .ok (.invokevirtual 118, 3) := by decide +kernel
theorem dX5_readTest_64 : decode cX5_readTest 64 = .ok (.istore_n 3, 1) := by decide +kernel
theorem dX5_readTest_65 : decode cX5_readTest 65 = .ok (.iload_n 3, 1) := by decide +kernel
theorem dX5_readTest_66 : decode cX5_readTest 66 = .ok (.iconst (-1), 1) := by decide +kernel
theorem dX5_readTest_67 : decode cX5_readTest 67 = .ok (.if_icmp .ne 5, 3) := by decide +kernel
theorem dX5_readTest_70 : decode cX5_readTest 70 = .ok (.iconst 0, 1) := by decide +kernel
theorem dX5_readTest_71 : decode cX5_readTest 71 = .ok (.ireturn, 1) := by decide +kernel
theorem dX5_readTest_72 : decode cX5_readTest 72 = .ok (.iload_n 2, 1) := by decide +kernel
theorem dX5_readTest_73 : decode cX5_readTest 73 = .ok (.bipush 24, 2) := by decide +kernel
theorem dX5_readTest_75 : decode cX5_readTest 75 = .ok (.if_icmp .ne 9, 3) := by decide +kernel
theorem dX5_readTest_78 : decode cX5_readTest 78 = .ok (.aload_n 0, 1) := by decide +kernel
theorem dX5_readTest_79 : decode cX5_readTest 79 = .ok (.iload_n 3, 1) := by decide +kernel
theorem dX5_readTest_80 : decode cX5_readTest 80 = .ok (.invokevirtual 121, 3) := by decide +kernel
theorem dX5_readTest_83 : decode cX5_readTest 83 = .ok (.ireturn, 1) := by decide +kernel
theorem dX5_readTest_84 : decode cX5_readTest 84 = .ok (.aload_n 0, 1) := by decide +kernel
theorem dX5_readTest_85 : decode cX5_readTest 85 = .ok (.getfield 23, 3) := by decide +kernel
theorem dX5_readTest_88 : decode cX5_readTest 88 = .ok (.iconst 5, 1) := by decide +kernel
theorem dX5_readTest_89 : decode cX5_readTest 89 = .ok (.iload_n 3, 1) := by decide +kernel
theorem dX5_readTest_90 : decode cX5_readTest 90 = .ok (.iconst 0, 1) := by decide +kernel
theorem dX5_readTest_91 : decode cX5_readTest 91 = .ok (.invokevirtual 85, 3) := by decide +kernel
theorem dX5_readTest_94 : decode cX5_readTest 94 = .ok (.iconst 1, 1) := by decide +kernel
theorem dX5_readTest_95 : decode cX5_readTest 95 = .ok (.ireturn, 1) := by decide +kernel
theorem dX5_addDepth_0 : decode cX5_addDepth 0 = .ok (.aload_n 0, 1) := by decide +kernel
theorem dX5_addDepth_1 : decode cX5_addDepth 1 = .ok (.getfield 14, 3) := by decide +kernel
theorem dX5_addDepth_4 : decode cX5_addDepth 4 = .ok (.getfield 124, 3) := by decide +kernel
theorem dX5_addDepth_7 : decode cX5_addDepth 7 = .ok (.invokestatic 127, 3) := by decide +kernel
theorem dX5_addDepth_10 : decode cX5_addDepth 10 = .ok (.istore_n 2, 1) := by decide +kernel
theorem dX5_addDepth_11 : decode cX5_addDepth 11 = .ok (.iload_n 2, 1) := by decide +kernel
theorem dX5_addDepth_12 : decode cX5_addDepth 12 = .ok (.iconst (-1), 1) := by decide +kernel
theorem dX5_addDepth_13 : decode cX5_addDepth 13 = .ok (.if_icmp .ne 12, 3) := by decide +kernel
theorem dX5_addDepth_16 : decode cX5_addDepth 16 = .ok (.aload_n 0, 1) := by decide +kernel
theorem dX5_addDepth_17 : decode cX5_addDepth 17 = .ok (.getfield 14, 3) := by decide +kernel
theorem dX5_addDepth_20 : decode cX5_addDepth 20 = .ok (.iconst 2, 1) := by decide +kernel
theorem dX5_addDepth_21 : decode cX5_addDepth 21 = .ok (.invokevirtual 62, 3) := by decide +kernel
theorem dX5_addDepth_24 : decode cX5_addDepth 24 = .ok (.ireturn, 1) := by decide +kernel
theorem dX5_addDepth_25 : decode cX5_addDepth 25 = .ok (.aload_n 0, 1) := by decide +kernel
theorem dX5_addDepth_26 : decode cX5_addDepth 26 = .ok (.getfield 14, 3) := by decide +kernel
theorem dX5_addDepth_29 : decode cX5_addDepth 29 = .ok (.invokevirtual 82, 3) := by decide +kernel
theorem dX5_addDepth_32 : decode cX5_addDepth 32 = .ok (.aload_n 0, 1) := by decide +kernel
theorem dX5_addDepth_33 : decode cX5_addDepth 33 = .ok (.getfield 14, 3) := by decide +kernel
theorem dX5_addDepth_36 : decode cX5_addDepth 36 = .ok (.iconst 0, 1) := by decide +kernel
theorem dX5_addDepth_37 : decode cX5_addDepth 37 = .ok (.sipush 9999, 3) := by decide +kernel
theorem dX5_addDepth_40 : decode cX5_addDepth 40 = .ok (.invokevirtual 110, 3) := by decide +kernel
theorem dX5_addDepth_43 : decode cX5_addDepth 43 = .ok (.istore_n 3, 1) := by decide +kernel
theorem dX5_addDepth_44 : decode cX5_addDepth 44 = .ok (.aload_n 0, 1) := by decide +kernel
theorem dX5_addDepth_45 : decode cX5_addDepth 45 = .ok (.getfield 23, 3) := by decide +kernel
theorem dX5_addDepth_48 : decode cX5_addDepth 48 = .ok (.iload_n 2, 1) := by decide +kernel
theorem dX5_addDepth_49 : decode cX5_addDepth 49 = .ok (.iload_n 1, 1) := by decide +kernel
theorem dX5_addDepth_50 : decode cX5_addDepth 50 = .ok (.iload_n 3, 1) := by decide +kernel
theorem dX5_addDepth_51 : decode cX5_addDepth 51 = .ok (.invokevirtual 85, 3) := by decide +kernel
theorem dX5_addDepth_54 : decode cX5_addDepth 54 = .ok (.iload_n 3, 1) := by decide +kernel
theorem dX5_addDepth_55 : decode cX5_addDepth 55 = .ok (.iconst (-1), 1) := by decide +kernel
theorem dX5_addDepth_56 : decode cX5_addDepth 56 = .ok (.if_icmp .eq 7, 3) := by decide +kernel
theorem dX5_addDepth_59 : decode cX5_addDepth 59 = .ok (.iconst 1, 1) := by decide +kernel
theorem dX5_addDepth_60 : decode cX5_addDepth 60 = .ok (.goto 4, 3) := by decide +kernel
theorem dX5_addDepth_63 : decode cX5_addDepth 63 = .ok (.iconst 0, 1) := by decide +kernel
theorem dX5_addDepth_64 : decode cX5_addDepth 64 = .ok (.ireturn, 1) := by decide +kernel
theorem dX5_kindOf_0 : decode cX5_kindOf 0 = .ok (.iload_n 0, 1) := by decide +kernel
theorem dX5_kindOf_1 : decode cX5_kindOf 1 = .ok (.tableswitch 36 60 62 #[27, 33, 30], 27) := by decide +kernel
theorem dX5_kindOf_28 : decode cX5_kindOf 28 = .ok (.bipush 7, 2) := by decide +kernel
theorem dX5_kindOf_30 : decode cX5_kindOf 30 = .ok (.ireturn, 1) := by decide +kernel
theorem dX5_kindOf_31 : decode cX5_kindOf 31 = .ok (.bipush 8, 2) := by decide +kernel
theorem dX5_kindOf_33 : decode cX5_kindOf 33 = .ok (.ireturn, 1) := by decide +kernel
theorem dX5_kindOf_34 : decode cX5_kindOf 34 = .ok (.bipush 9, 2) := by decide +kernel
theorem dX5_kindOf_36 : decode cX5_kindOf 36 = .ok (.ireturn, 1) := by decide +kernel
theorem dX5_kindOf_37 : decode cX5_kindOf 37 = .ok (.iconst (-1), 1) := by decide +kernel
theorem dX5_kindOf_38 : decode cX5_kindOf 38 = .ok (.ireturn, 1) := by decide +kernel
theorem dX6_init_0 : decode cX6_init 0 = .ok (.aload_n 0, 1) := by decide +kernel
theorem dX6_init_1 : decode cX6_init 1 = .ok (.invokespecial 3, 3) := by decide +kernel
theorem dX6_init_4 : decode cX6_init 4 = .ok (.aload_n 0, 1) := by decide +kernel
theorem dX6_init_5 : decode cX6_init 5 = .ok (.new 9, 3) := by decide +kernel
theorem dX6_init_8 : decode cX6_init 8 = .ok (.dup, 1) := by decide +kernel
theorem dX6_init_9 : decode cX6_init 9 = .ok (.invokespecial 11, 3) := by decide +kernel
theorem dX6_init_12 : decode cX6_init 12 = .ok (.putfield 12, 3) := by decide +kernel
theorem dX6_init_15 : decode cX6_init 15 = .ok (.aload_n 0, 1) := by decide +kernel
theorem dX6_init_16 : decode cX6_init 16 = .ok (.bipush 10, 2) := by decide +kernel
theorem dX6_init_18 : decode cX6_init 18 = .ok (.bipush 7, 2) := by decide +kernel
theorem dX6_init_20 : decode cX6_init 20 = .ok (.multianewarray 18 2, 4) := by decide +kernel
theorem dX6_init_24 : decode cX6_init 24 = .ok (.putfield 20, 3) := by decide +kernel
theorem dX6_init_27 : decode cX6_init 27 = .ok (.aload_n 0, 1) := by decide +kernel
theorem dX6_init_28 : decode cX6_init 28 = .ok (.bipush 12, 2) := by decide +kernel
theorem dX6_init_30 : decode cX6_init 30 = .ok (.bipush 7, 2) := by decide +kernel
theorem dX6_init_32 : decode cX6_init 32 = .ok (.multianewarray 18 2, 4) := by decide +kernel
theorem dX6_init_36 : decode cX6_init 36 = .ok (.putfield 23, 3) := by decide +kernel
theorem dX6_init_39 : decode cX6_init 39 = .ok (.aload_n 0, 1) := by decide +kernel
theorem dX6_init_40 : decode cX6_init 40 = .ok (.bipush 12, 2) := by decide +kernel
theorem dX6_init_42 : decode cX6_init 42 = .ok (.newarray .int, 2) := by decide +kernel
theorem dX6_init_44 : decode cX6_init 44 = .ok (.putfield 26, 3) := by decide +kernel
theorem dX6_init_47 : decode cX6_init 47 = .ok (.return_, 1) := by decide +kernel
theorem dX6_wallsFor_0 : decode cX6_wallsFor 0 = .ok (.aload_n 0, 1) := by decide +kernel
theorem dX6_wallsFor_1 : decode cX6_wallsFor 1 = .ok (.invokevirtual 30, 3) := by decide +kernel
theorem dX6_wallsFor_4 : decode cX6_wallsFor 4 = .ok (.aload_n 0, 1) := by decide +kernel
theorem dX6_wallsFor_5 : decode cX6_wallsFor 5 = .ok (.getfield 36, 3) := by decide +kernel
theorem dX6_wallsFor_8 : decode cX6_wallsFor 8 = .ok (.iconst (-1), 1) := by decide +kernel
theorem dX6_wallsFor_9 : decode cX6_wallsFor 9 = .ok (.ixor, 1) := by decide +kernel
theorem dX6_wallsFor_10 : decode cX6_wallsFor 10 = .ok (.iand, 1) := by decide +kernel
theorem dX6_wallsFor_11 : decode cX6_wallsFor 11 = .ok (.istore_n 2, 1) := by decide +kernel
theorem dX6_wallsFor_12 : decode cX6_wallsFor 12 = .ok (.iload_n 2, 1) := by decide +kernel
theorem dX6_wallsFor_13 : decode cX6_wallsFor 13 = .ok (.istore_n 3, 1) := by decide +kernel
theorem dX6_wallsFor_14 : decode cX6_wallsFor 14 = .ok (.bipush 11, 2) := by decide +kernel
theorem dX6_wallsFor_16 : decode cX6_wallsFor 16 = .ok (.istore 4, 2) := by decide +kernel
theorem dX6_wallsFor_18 : decode cX6_wallsFor 18 = .ok (.iconst 0, 1) := by decide +kernel
theorem dX6_wallsFor_19 : decode cX6_wallsFor 19 = .ok (.istore 5, 2) := by decide +kernel
theorem dX6_wallsFor_21 : decode cX6_wallsFor 21 = .ok (.iload 5, 2) := by decide +kernel
theorem dX6_wallsFor_23 : decode cX6_wallsFor 23 = .ok (.iload_n 2, 1) := by decide +kernel
theorem dX6_wallsFor_24 : decode cX6_wallsFor 24 = .ok (.if_icmp .gt 58, 3) := by decide +kernel
theorem dX6_wallsFor_27 : decode cX6_wallsFor 27 = .ok (.iload 5, 2) := by decide +kernel
theorem dX6_wallsFor_29 : decode cX6_wallsFor 29 = .ok (.iload_n 2, 1) := by decide +kernel
theorem dX6_wallsFor_30 : decode cX6_wallsFor 30 = .ok (.iconst (-1), 1) := by decide +kernel
theorem dX6_wallsFor_31 : decode cX6_wallsFor 31 = .ok (.ixor, 1) := by decide +kernel
theorem dX6_wallsFor_32 : decode cX6_wallsFor 32 = .ok (.iand, 1) := by decide +kernel
theorem dX6_wallsFor_33 : decode cX6_wallsFor 33 = .ok (.ifCond .ne 43, 3) := by decide +kernel
theorem dX6_wallsFor_36 : decode cX6_wallsFor 36 = .ok (.iload 5, 2) := by decide +kernel
theorem dX6_wallsFor_38 : decode cX6_wallsFor 38 = .ok (.invokestatic 40, 3) := by decide +kernel
theorem dX6_wallsFor_41 : decode cX6_wallsFor 41 = .ok (.iload 4, 2) := by decide +kernel
theorem dX6_wallsFor_43 : decode cX6_wallsFor 43 = .ok (.if_icmp .ge 33, 3) := by decide +kernel
theorem dX6_wallsFor_46 : decode cX6_wallsFor 46 = .ok (.aload_n 0, 1) := by decide +kernel
theorem dX6_wallsFor_47 : decode cX6_wallsFor 47 = .ok (.sipush 128, 3) := by decide +kernel
theorem dX6_wallsFor_50 : decode cX6_wallsFor 50 = .ok (.iload_n 2, 1) := by decide +kernel
theorem dX6_wallsFor_51 : decode cX6_wallsFor 51 = .ok (.iload 5, 2) := by decide +kernel
theorem dX6_wallsFor_53 : decode cX6_wallsFor 53 = .ok (.iconst (-1), 1) := by decide +kernel
theorem dX6_wallsFor_54 : decode cX6_wallsFor 54 = .ok (.ixor, 1) := by decide +kernel
theorem dX6_wallsFor_55 : decode cX6_wallsFor 55 = .ok (.iand, 1) := by decide +kernel
theorem dX6_wallsFor_56 : decode cX6_wallsFor 56 = .ok (.invokevirtual 46, 3) := by decide +kernel
theorem dX6_wallsFor_59 : decode cX6_wallsFor 59 = .ok (.iload_n 1, 1) := by decide +kernel
theorem dX6_wallsFor_60 : decode cX6_wallsFor 60 = .ok (.ishr, 1) := by decide +kernel
theorem dX6_wallsFor_61 : decode cX6_wallsFor 61 = .ok (.iconst 1, 1) := by decide +kernel
theorem dX6_wallsFor_62 : decode cX6_wallsFor 62 = .ok (.iand, 1) := by decide +kernel
theorem dX6_wallsFor_63 : decode cX6_wallsFor 63 = .ok (.ifCond .ne 13, 3) := by decide +kernel
theorem dX6_wallsFor_66 : decode cX6_wallsFor 66 = .ok (.iload 5, 2) := by decide +kernel
theorem dX6_wallsFor_68 : decode cX6_wallsFor 68 = .ok (.istore_n 3, 1) := by decide +kernel
theorem dX6_wallsFor_69 : decode cX6_wallsFor 69 = .ok (.iload 5, 2) := by decide +kernel
theorem dX6_wallsFor_71 : decode cX6_wallsFor 71 = .ok (.invokestatic 40, 3) := by decide +kernel
theorem dX6_wallsFor_74 : decode cX6_wallsFor 74 = .ok (.istore 4, 2) := by decide +kernel
theorem dX6_wallsFor_76 : decode cX6_wallsFor 76 = .ok (.iinc 5 1, 3) := by decide +kernel
theorem dX6_wallsFor_79 : decode cX6_wallsFor 79 = .ok (.goto (-58), 3) := by decide +kernel
theorem dX6_wallsFor_82 : decode cX6_wallsFor 82 = .ok (.iload_n 3, 1) := by decide +kernel
theorem dX6_wallsFor_83 : decode cX6_wallsFor 83 = .ok (.ireturn, 1) := by decide +kernel
theorem dX6_planErrands_0 : decode cX6_planErrands 0 = .ok (.aload_n 0, 1) := by decide +kernel
theorem dX6_planErrands_1 : decode cX6_planErrands 1 = .ok (.getfield 12, 3) := by decide +kernel
theorem dX6_planErrands_4 : decode cX6_planErrands 4 = .ok (.aload_n 1, 1) := by decide +kernel
theorem dX6_planErrands_5 : decode cX6_planErrands 5 = .ok (.invokevirtual 50, 3) := by decide +kernel
theorem dX6_planErrands_8 : decode cX6_planErrands 8 = .ok (.aload_n 0, 1) := by decide +kernel
theorem dX6_planErrands_9 : decode cX6_planErrands 9 = .ok (.getfield 12, 3) := by decide +kernel
theorem dX6_planErrands_12 : decode cX6_planErrands 12 = .ok (.getfield 54, 3) := by decide +kernel
theorem dX6_planErrands_15 : decode cX6_planErrands 15 = .ok (.invokevirtual 58, 3) := by decide +kernel
theorem dX6_planErrands_18 : decode cX6_planErrands 18 = .ok (.aload_n 0, 1) := by decide +kernel
theorem dX6_planErrands_19 : decode cX6_planErrands 19 = .ok (.bipush 8, 2) := by decide +kernel
theorem dX6_planErrands_21 : decode cX6_planErrands 21 = .ok (.putfield 61, 3) := by decide +kernel
theorem dX6_planErrands_24 : decode cX6_planErrands 24 = .ok (.aload_n 0, 1) := by decide +kernel
theorem dX6_planErrands_25 : decode cX6_planErrands 25 = .ok (.iconst 0, 1) := by decide +kernel
theorem dX6_planErrands_26 : decode cX6_planErrands 26 = .ok (.putfield 64, 3) := by decide +kernel
theorem dX6_planErrands_29 : decode cX6_planErrands 29 = .ok (.aload_n 0, 1) := by decide +kernel
theorem dX6_planErrands_30 : decode cX6_planErrands 30 = .ok (.iconst 0, 1) := by decide +kernel
theorem dX6_planErrands_31 : decode cX6_planErrands 31 = .ok (.putfield 67, 3) := by decide +kernel
theorem dX6_planErrands_34 : decode cX6_planErrands 34 = .ok (.aload_n 0, 1) := by decide +kernel
theorem dX6_planErrands_35 : decode cX6_planErrands 35 = .ok (.iconst 0, 1) := by decide +kernel
theorem dX6_planErrands_36 : decode cX6_planErrands 36 = .ok (.iconst 1, 1) := by decide +kernel
theorem dX6_planErrands_37 : decode cX6_planErrands 37 = .ok (.aload_n 1, 1) := by decide +kernel
theorem dX6_planErrands_38 : decode cX6_planErrands 38 = .ok (.getfield 70, 3) := by decide +kernel
theorem dX6_planErrands_41 : decode cX6_planErrands 41 = .ok (.ishl, 1) := by decide +kernel
theorem dX6_planErrands_42 : decode cX6_planErrands 42 = .ok (.iconst 1, 1) := by decide +kernel
theorem dX6_planErrands_43 : decode cX6_planErrands 43 = .ok (.isub, 1) := by decide +kernel
theorem dX6_planErrands_44 : decode cX6_planErrands 44 = .ok (.iconst 0, 1) := by decide +kernel
theorem dX6_planErrands_45 : decode cX6_planErrands 45 = .ok (.invokestatic 73, 3) := by decide +kernel
theorem dX6_planErrands_48 : decode cX6_planErrands 48 = .ok (.return_, 1) := by decide +kernel
theorem dX6_shiftOf_0 : decode cX6_shiftOf 0 = .ok (.iconst 4, 1) := by decide +kernel
theorem dX6_shiftOf_1 : decode cX6_shiftOf 1 = .ok (.iconst 3, 1) := by decide +kernel
theorem dX6_shiftOf_2 : decode cX6_shiftOf 2 = .ok (.iload_n 0, 1) := by decide +kernel
theorem dX6_shiftOf_3 : decode cX6_shiftOf 3 = .ok (.isub, 1) := by decide +kernel
theorem dX6_shiftOf_4 : decode cX6_shiftOf 4 = .ok (.imul, 1) := by decide +kernel
theorem dX6_shiftOf_5 : decode cX6_shiftOf 5 = .ok (.ireturn, 1) := by decide +kernel
theorem dX6_plannedHour_0 : decode cX6_plannedHour 0 = .ok (.aload_n 0, 1) := by decide +kernel
theorem dX6_plannedHour_1 : decode cX6_plannedHour 1 = .ok (.getfield 67, 3) := by decide +kernel
theorem dX6_plannedHour_4 : decode cX6_plannedHour 4 = .ok (.iload_n 1, 1) := by decide +kernel
theorem dX6_plannedHour_5 : decode cX6_plannedHour 5 = .ok (.invokestatic 77, 3) := by decide +kernel
theorem dX6_plannedHour_8 : decode cX6_plannedHour 8 = .ok (.ishr, 1) := by decide +kernel
theorem dX6_plannedHour_9 : decode cX6_plannedHour 9 = .ok (.bipush 15, 2) := by decide +kernel
theorem dX6_plannedHour_11 : decode cX6_plannedHour 11 = .ok (.iand, 1) := by decide +kernel
theorem dX6_plannedHour_12 : decode cX6_plannedHour 12 = .ok (.ireturn, 1) := by decide +kernel
theorem dX6_tryErrands_0 : decode cX6_tryErrands 0 = .ok (.iload_n 1, 1) := by decide +kernel
theorem dX6_tryErrands_1 : decode cX6_tryErrands 1 = .ok (.bipush 12, 2) := by decide +kernel
theorem dX6_tryErrands_3 : decode cX6_tryErrands 3 = .ok (.if_icmp .lt 13, 3) := by decide +kernel
theorem dX6_tryErrands_6 : decode cX6_tryErrands 6 = .ok (.iload_n 2, 1) := by decide +kernel
theorem dX6_tryErrands_7 : decode cX6_tryErrands 7 = .ok (.ifCond .ne 8, 3) := by decide +kernel
theorem dX6_tryErrands_10 : decode cX6_tryErrands 10 = .ok (.aload_n 0, 1) := by decide +kernel
theorem dX6_tryErrands_11 : decode cX6_tryErrands 11 = .ok (.iload_n 3, 1) := by decide +kernel
theorem dX6_tryErrands_12 : decode cX6_tryErrands 12 = .ok (.invokevirtual 80, 3) := by decide +kernel
theorem dX6_tryErrands_15 : decode cX6_tryErrands 15 = .ok (.return_, 1) := by decide +kernel
theorem dX6_tryErrands_16 : decode cX6_tryErrands 16 = .ok (.aload_n 0, 1) := by decide +kernel
theorem dX6_tryErrands_17 : decode cX6_tryErrands 17 = .ok (.iload_n 1, 1) := by decide +kernel
theorem dX6_tryErrands_18 : decode cX6_tryErrands 18 = .ok (.invokevirtual 84, 3) := by decide +kernel
theorem dX6_tryErrands_21 : decode cX6_tryErrands 21 = .ok (.aload_n 0, 1) := by decide +kernel
theorem dX6_tryErrands_22 : decode cX6_tryErrands 22 = .ok (.getfield 12, 3) := by decide +kernel
theorem dX6_tryErrands_25 : decode cX6_tryErrands 25 = .ok (.invokevirtual 87, 3) := by decide +kernel
theorem dX6_tryErrands_28 : decode cX6_tryErrands 28 = .ok (.istore 4, 2) := by decide +kernel
theorem dX6_tryErrands_30 : decode cX6_tryErrands 30 = .ok (.aload_n 0, 1) := by decide +kernel
theorem dX6_tryErrands_31 : decode cX6_tryErrands 31 = .ok (.iload_n 2, 1) := by decide +kernel
theorem dX6_tryErrands_32 : decode cX6_tryErrands 32 = .ok (.iload 4, 2) := by decide +kernel
theorem dX6_tryErrands_34 : decode cX6_tryErrands 34 = .ok (.invokevirtual 90, 3) := by decide +kernel
theorem dX6_tryErrands_37 : decode cX6_tryErrands 37 = .ok (.istore 5, 2) := by decide +kernel
theorem dX6_tryErrands_39 : decode cX6_tryErrands 39 = .ok (.iload_n 2, 1) := by decide +kernel
theorem dX6_tryErrands_40 : decode cX6_tryErrands 40 = .ok (.aload_n 0, 1) := by decide +kernel
theorem dX6_tryErrands_41 : decode cX6_tryErrands 41 = .ok (.iload_n 2, 1) := by decide +kernel
theorem dX6_tryErrands_42 : decode cX6_tryErrands 42 = .ok (.iload_n 1, 1) := by decide +kernel
theorem dX6_tryErrands_43 : decode cX6_tryErrands 43 = .ok (.iconst 1, 1) := by decide +kernel
theorem dX6_tryErrands_44 : decode cX6_tryErrands 44 = .ok (.iadd, 1) := by decide +kernel
theorem dX6_tryErrands_45 : decode cX6_tryErrands 45 = .ok (.iload 4, 2) := by decide +kernel
theorem dX6_tryErrands_47 : decode cX6_tryErrands 47 = .ok (.iconst 1, 1) := by decide +kernel
theorem dX6_tryErrands_48 : decode cX6_tryErrands 48 = .ok (.iadd, 1) := by decide +kernel
theorem dX6_tryErrands_49 : decode cX6_tryErrands 49 = .ok (.invokevirtual 93, 3) := by decide +kernel
theorem dX6_tryErrands_52 : decode cX6_tryErrands 52 = .ok (.iconst (-1), 1) := by decide +kernel
theorem dX6_tryErrands_53 : decode cX6_tryErrands 53 = .ok (.ixor, 1) := by decide +kernel
theorem dX6_tryErrands_54 : decode cX6_tryErrands 54 = .ok (.iand, 1) := by decide +kernel
theorem dX6_tryErrands_55 : decode cX6_tryErrands 55 = .ok (.istore 6, 2) := by decide +kernel
theorem dX6_tryErrands_57 : decode cX6_tryErrands 57 = .ok (.iconst 0, 1) := by decide +kernel
theorem dX6_tryErrands_58 : decode cX6_tryErrands 58 = .ok (.istore 7, 2) := by decide +kernel
theorem dX6_tryErrands_60 : decode cX6_tryErrands 60 = .ok (.iload 7, 2) := by decide +kernel
theorem dX6_tryErrands_62 : decode cX6_tryErrands 62 = .ok (.iload 5, 2) := by decide +kernel
theorem dX6_tryErrands_64 : decode cX6_tryErrands 64 = .ok (.if_icmp .gt 83, 3) := by decide +kernel
theorem dX6_tryErrands_67 : decode cX6_tryErrands 67 = .ok (.iload 7, 2) := by decide +kernel
theorem dX6_tryErrands_69 : decode cX6_tryErrands 69 = .ok (.iload 5, 2) := by decide +kernel
theorem dX6_tryErrands_71 : decode cX6_tryErrands 71 = .ok (.iconst (-1), 1) := by decide +kernel
theorem dX6_tryErrands_72 : decode cX6_tryErrands 72 = .ok (.ixor, 1) := by decide +kernel
theorem dX6_tryErrands_73 : decode cX6_tryErrands 73 = .ok (.iand, 1) := by decide +kernel
theorem dX6_tryErrands_74 : decode cX6_tryErrands 74 = .ok (.ifCond .ne 67, 3) := by decide +kernel
theorem dX6_tryErrands_77 : decode cX6_tryErrands 77 = .ok (.iload 6, 2) := by decide +kernel
theorem dX6_tryErrands_79 : decode cX6_tryErrands 79 = .ok (.iload 7, 2) := by decide +kernel
theorem dX6_tryErrands_81 : decode cX6_tryErrands 81 = .ok (.iconst (-1), 1) := by decide +kernel
theorem dX6_tryErrands_82 : decode cX6_tryErrands 82 = .ok (.ixor, 1) := by decide +kernel
theorem dX6_tryErrands_83 : decode cX6_tryErrands 83 = .ok (.iand, 1) := by decide +kernel
theorem dX6_tryErrands_84 : decode cX6_tryErrands 84 = .ok (.ifCond .ne 57, 3) := by decide +kernel
theorem dX6_tryErrands_87 : decode cX6_tryErrands 87 = .ok (.aload_n 0, 1) := by decide +kernel
theorem dX6_tryErrands_88 : decode cX6_tryErrands 88 = .ok (.getfield 12, 3) := by decide +kernel
theorem dX6_tryErrands_91 : decode cX6_tryErrands 91 = .ok (.getfield 54, 3) := by decide +kernel
theorem dX6_tryErrands_94 : decode cX6_tryErrands 94 = .ok (.getfield 97, 3) := by decide +kernel
theorem dX6_tryErrands_97 : decode cX6_tryErrands 97 = .ok (.iload 4, 2) := by decide +kernel
theorem dX6_tryErrands_99 : decode cX6_tryErrands 99 = .ok (.aload_n 0, 1) := by decide +kernel
theorem dX6_tryErrands_100 : decode cX6_tryErrands 100 = .ok (.iload 7, 2) := by decide +kernel
theorem dX6_tryErrands_102 : decode cX6_tryErrands 102 = .ok (.invokevirtual 100, 3) := by decide +kernel
theorem dX6_tryErrands_105 : decode cX6_tryErrands 105 = .ok (.iastore, 1) := by decide +kernel
theorem dX6_tryErrands_106 : decode cX6_tryErrands 106 = .ok (.aload_n 0, 1) := by decide +kernel
theorem dX6_tryErrands_107 : decode cX6_tryErrands 107 = .ok (.getfield 12, 3) := by decide +kernel
theorem dX6_tryErrands_110 : decode cX6_tryErrands 110 = .ok (.invokevirtual 103, 3) := by decide +kernel
theorem dX6_tryErrands_113 : decode cX6_tryErrands 113 = .ok (.aload_n 0, 1) := by decide +kernel
theorem dX6_tryErrands_114 : decode cX6_tryErrands 114 = .ok (.iload_n 1, 1) := by decide +kernel
theorem dX6_tryErrands_115 : decode cX6_tryErrands 115 = .ok (.iconst 1, 1) := by decide +kernel
theorem dX6_tryErrands_116 : decode cX6_tryErrands 116 = .ok (.iadd, 1) := by decide +kernel
theorem dX6_tryErrands_117 : decode cX6_tryErrands 117 = .ok (.iload_n 2, 1) := by decide +kernel
theorem dX6_tryErrands_118 : decode cX6_tryErrands 118 = .ok (.iload 7, 2) := by decide +kernel
theorem dX6_tryErrands_120 : decode cX6_tryErrands 120 = .ok (.iconst (-1), 1) := by decide +kernel
theorem dX6_tryErrands_121 : decode cX6_tryErrands 121 = .ok (.ixor, 1) := by decide +kernel
theorem dX6_tryErrands_122 : decode cX6_tryErrands 122 = .ok (.iand, 1) := by decide +kernel
theorem dX6_tryErrands_123 : decode cX6_tryErrands 123 = .ok (.iload_n 3, 1) := by decide +kernel
theorem dX6_tryErrands_124 : decode cX6_tryErrands 124 = .ok (.aload_n 0, 1) := by decide +kernel
theorem dX6_tryErrands_125 : decode cX6_tryErrands 125 = .ok (.iload 7, 2) := by decide +kernel
theorem dX6_tryErrands_127 : decode cX6_tryErrands 127 = .ok (.iload 4, 2) := by decide +kernel
theorem dX6_tryErrands_129 : decode cX6_tryErrands 129 = .ok (.invokevirtual 106, 3) := by decide +kernel
theorem dX6_tryErrands_132 : decode cX6_tryErrands 132 = .ok (.ior, 1) := by decide +kernel
theorem dX6_tryErrands_133 : decode cX6_tryErrands 133 = .ok (.invokestatic 73, 3) := by decide +kernel
theorem dX6_tryErrands_136 : decode cX6_tryErrands 136 = .ok (.aload_n 0, 1) := by decide +kernel
theorem dX6_tryErrands_137 : decode cX6_tryErrands 137 = .ok (.iload_n 1, 1) := by decide +kernel
theorem dX6_tryErrands_138 : decode cX6_tryErrands 138 = .ok (.invokevirtual 109, 3) := by decide +kernel
theorem dX6_tryErrands_141 : decode cX6_tryErrands 141 = .ok (.iinc 7 1, 3) := by decide +kernel
theorem dX6_tryErrands_144 : decode cX6_tryErrands 144 = .ok (.goto (-84), 3) := by decide +kernel
theorem dX6_tryErrands_147 : decode cX6_tryErrands 147 = .ok (.aload_n 0, 1) := by decide +kernel
theorem dX6_tryErrands_148 : decode cX6_tryErrands 148 = .ok (.getfield 12, 3) := by decide +kernel
theorem dX6_tryErrands_151 : decode cX6_tryErrands 151 = .ok (.getfield 54, 3) := by decide +kernel
theorem dX6_tryErrands_154 : decode cX6_tryErrands 154 = .ok (.getfield 97, 3) := by decide +kernel
theorem dX6_tryErrands_157 : decode cX6_tryErrands 157 = .ok (.iload 4, 2) := by decide +kernel
theorem dX6_tryErrands_159 : decode cX6_tryErrands 159 = .ok (.iconst 0, 1) := by decide +kernel
theorem dX6_tryErrands_160 : decode cX6_tryErrands 160 = .ok (.iastore, 1) := by decide +kernel
theorem dX6_tryErrands_161 : decode cX6_tryErrands 161 = .ok (.return_, 1) := by decide +kernel
theorem dX6_weighPlan_0 : decode cX6_weighPlan 0 = .ok (.aload_n 0, 1) := by decide +kernel
theorem dX6_weighPlan_1 : decode cX6_weighPlan 1 = .ok (.getfield 12, 3) := by decide +kernel
theorem dX6_weighPlan_4 : decode cX6_weighPlan 4 = .ok (.getfield 112, 3) := by decide +kernel
theorem dX6_weighPlan_7 : decode cX6_weighPlan 7 = .ok (.getfield 116, 3) := by decide +kernel
theorem dX6_weighPlan_10 : decode cX6_weighPlan 10 = .ok (.invokestatic 40, 3) := by decide +kernel
theorem dX6_weighPlan_13 : decode cX6_weighPlan 13 = .ok (.istore_n 2, 1) := by decide +kernel
theorem dX6_weighPlan_14 : decode cX6_weighPlan 14 = .ok (.aload_n 0, 1) := by decide +kernel
theorem dX6_weighPlan_15 : decode cX6_weighPlan 15 = .ok (.getfield 12, 3) := by decide +kernel
theorem dX6_weighPlan_18 : decode cX6_weighPlan 18 = .ok (.getfield 112, 3) := by decide +kernel
theorem dX6_weighPlan_21 : decode cX6_weighPlan 21 = .ok (.invokevirtual 121, 3) := by decide +kernel
theorem dX6_weighPlan_24 : decode cX6_weighPlan 24 = .ok (.istore_n 3, 1) := by decide +kernel
theorem dX6_weighPlan_25 : decode cX6_weighPlan 25 = .ok (.iload_n 2, 1) := by decide +kernel
theorem dX6_weighPlan_26 : decode cX6_weighPlan 26 = .ok (.aload_n 0, 1) := by decide +kernel
theorem dX6_weighPlan_27 : decode cX6_weighPlan 27 = .ok (.getfield 61, 3) := by decide +kernel
theorem dX6_weighPlan_30 : decode cX6_weighPlan 30 = .ok (.if_icmp .lt 43, 3) := by decide +kernel
theorem dX6_weighPlan_33 : decode cX6_weighPlan 33 = .ok (.iload_n 2, 1) := by decide +kernel
theorem dX6_weighPlan_34 : decode cX6_weighPlan 34 = .ok (.aload_n 0, 1) := by decide +kernel
theorem dX6_weighPlan_35 : decode cX6_weighPlan 35 = .ok (.getfield 61, 3) := by decide +kernel
theorem dX6_weighPlan_38 : decode cX6_weighPlan 38 = .ok (.if_icmp .ne 11, 3) := by decide +kernel
theorem dX6_weighPlan_41 : decode cX6_weighPlan 41 = .ok (.iload_n 3, 1) := by decide +kernel
theorem dX6_weighPlan_42 : decode cX6_weighPlan 42 = .ok (.aload_n 0, 1) := by decide +kernel
theorem dX6_weighPlan_43 : decode cX6_weighPlan 43 = .ok (.getfield 64, 3) := by decide +kernel
theorem dX6_weighPlan_46 : decode cX6_weighPlan 46 = .ok (.if_icmp .lt 27, 3) := by decide +kernel
theorem dX6_weighPlan_49 : decode cX6_weighPlan 49 = .ok (.iload_n 2, 1) := by decide +kernel
theorem dX6_weighPlan_50 : decode cX6_weighPlan 50 = .ok (.aload_n 0, 1) := by decide +kernel
theorem dX6_weighPlan_51 : decode cX6_weighPlan 51 = .ok (.getfield 61, 3) := by decide +kernel
theorem dX6_weighPlan_54 : decode cX6_weighPlan 54 = .ok (.if_icmp .ne 23, 3) := by decide +kernel
theorem dX6_weighPlan_57 : decode cX6_weighPlan 57 = .ok (.iload_n 3, 1) := by decide +kernel
theorem dX6_weighPlan_58 : decode cX6_weighPlan 58 = .ok (.aload_n 0, 1) := by decide +kernel
theorem dX6_weighPlan_59 : decode cX6_weighPlan 59 = .ok (.getfield 64, 3) := by decide +kernel
theorem dX6_weighPlan_62 : decode cX6_weighPlan 62 = .ok (.if_icmp .ne 15, 3) := by decide +kernel
theorem dX6_weighPlan_65 : decode cX6_weighPlan 65 = .ok (.iload_n 1, 1) := by decide +kernel
theorem dX6_weighPlan_66 : decode cX6_weighPlan 66 = .ok (.aload_n 0, 1) := by decide +kernel
theorem dX6_weighPlan_67 : decode cX6_weighPlan 67 = .ok (.getfield 67, 3) := by decide +kernel
theorem dX6_weighPlan_70 : decode cX6_weighPlan 70 = .ok (.if_icmp .ge 7, 3) := by decide +kernel
theorem dX6_weighPlan_73 : decode cX6_weighPlan 73 = .ok (.iconst 1, 1) := by decide +kernel
theorem dX6_weighPlan_74 : decode cX6_weighPlan 74 = .ok (.goto 4, 3) := by decide +kernel
theorem dX6_weighPlan_77 : decode cX6_weighPlan 77 = .ok (.iconst 0, 1) := by decide +kernel
theorem dX6_weighPlan_78 : decode cX6_weighPlan 78 = .ok (.istore 4, 2) := by decide +kernel
theorem dX6_weighPlan_80 : decode cX6_weighPlan 80 = .ok (.iload 4, 2) := by decide +kernel
theorem dX6_weighPlan_82 : decode cX6_weighPlan 82 = .ok (.ifCond .eq 18, 3) := by decide +kernel
theorem dX6_weighPlan_85 : decode cX6_weighPlan 85 = .ok (.aload_n 0, 1) := by decide +kernel
theorem dX6_weighPlan_86 : decode cX6_weighPlan 86 = .ok (.iload_n 2, 1) := by decide +kernel
theorem dX6_weighPlan_87 : decode cX6_weighPlan 87 = .ok (.putfield 61, 3) := by decide +kernel
theorem dX6_weighPlan_90 : decode cX6_weighPlan 90 = .ok (.aload_n 0, 1) := by decide +kernel
theorem dX6_weighPlan_91 : decode cX6_weighPlan 91 = .ok (.iload_n 3, 1) := by decide +kernel
theorem dX6_weighPlan_92 : decode cX6_weighPlan 92 = .ok (.putfield 64, 3) := by decide +kernel
theorem dX6_weighPlan_95 : decode cX6_weighPlan 95 = .ok (.aload_n 0, 1) := by decide +kernel
theorem dX6_weighPlan_96 : decode cX6_weighPlan 96 = .ok (.iload_n 1, 1) := by decide +kernel
theorem dX6_weighPlan_97 : decode cX6_weighPlan 97 = .ok (.putfield 67, 3) := by decide +kernel
theorem dX6_weighPlan_100 : decode cX6_weighPlan 100 = .ok (.return_, 1) := by decide +kernel
theorem dX6_keepWater_0 : decode cX6_keepWater 0 = .ok (.aload_n 0, 1) := by decide +kernel
theorem dX6_keepWater_1 : decode cX6_keepWater 1 = .ok (.getfield 12, 3) := by decide +kernel
theorem dX6_keepWater_4 : decode cX6_keepWater 4 = .ok (.getfield 112, 3) := by decide +kernel
theorem dX6_keepWater_7 : decode cX6_keepWater 7 = .ok (.getfield 124, 3) := by decide +kernel
theorem dX6_keepWater_10 : decode cX6_keepWater 10 = .ok (.iconst 0, 1) := by decide +kernel
theorem dX6_keepWater_11 : decode cX6_keepWater 11 = .ok (.aload_n 0, 1) := by decide +kernel
theorem dX6_keepWater_12 : decode cX6_keepWater 12 = .ok (.getfield 23, 3) := by decide +kernel
theorem dX6_keepWater_15 : decode cX6_keepWater 15 = .ok (.iload_n 1, 1) := by decide +kernel
theorem dX6_keepWater_16 : decode cX6_keepWater 16 = .ok (.aaload, 1) := by decide +kernel
theorem dX6_keepWater_17 : decode cX6_keepWater 17 = .ok (.iconst 0, 1) := by decide +kernel
theorem dX6_keepWater_18 : decode cX6_keepWater 18 = .ok (.bipush 7, 2) := by decide +kernel
theorem dX6_keepWater_20 : decode cX6_keepWater 20 = .ok (.invokestatic 127, 3) := by decide +kernel
theorem dX6_keepWater_23 : decode cX6_keepWater 23 = .ok (.aload_n 0, 1) := by decide +kernel
theorem dX6_keepWater_24 : decode cX6_keepWater 24 = .ok (.getfield 26, 3) := by decide +kernel
theorem dX6_keepWater_27 : decode cX6_keepWater 27 = .ok (.iload_n 1, 1) := by decide +kernel
theorem dX6_keepWater_28 : decode cX6_keepWater 28 = .ok (.aload_n 0, 1) := by decide +kernel
theorem dX6_keepWater_29 : decode cX6_keepWater 29 = .ok (.getfield 12, 3) := by decide +kernel
theorem dX6_keepWater_32 : decode cX6_keepWater 32 = .ok (.getfield 112, 3) := by decide +kernel
theorem dX6_keepWater_35 : decode cX6_keepWater 35 = .ok (.getfield 116, 3) := by decide +kernel
theorem dX6_keepWater_38 : decode cX6_keepWater 38 = .ok (.iastore, 1) := by decide +kernel
theorem dX6_keepWater_39 : decode cX6_keepWater 39 = .ok (.return_, 1) := by decide +kernel
theorem dX6_takeWaterBack_0 : decode cX6_takeWaterBack 0 = .ok (.aload_n 0, 1) := by decide +kernel
theorem dX6_takeWaterBack_1 : decode cX6_takeWaterBack 1 = .ok (.getfield 23, 3) := by decide +kernel
theorem dX6_takeWaterBack_4 : decode cX6_takeWaterBack 4 = .ok (.iload_n 1, 1) := by decide +kernel
theorem dX6_takeWaterBack_5 : decode cX6_takeWaterBack 5 = .ok (.aaload, 1) := by decide +kernel
theorem dX6_takeWaterBack_6 : decode cX6_takeWaterBack 6 = .ok (.iconst 0, 1) := by decide +kernel
theorem dX6_takeWaterBack_7 : decode cX6_takeWaterBack 7 = .ok (.aload_n 0, 1) := by decide +kernel
theorem dX6_takeWaterBack_8 : decode cX6_takeWaterBack 8 = .ok (.getfield 12, 3) := by decide +kernel
theorem dX6_takeWaterBack_11 : decode cX6_takeWaterBack 11 = .ok (.getfield 112, 3) := by decide +kernel
theorem dX6_takeWaterBack_14 : decode cX6_takeWaterBack 14 = .ok (.getfield 124, 3) := by decide +kernel
theorem dX6_takeWaterBack_17 : decode cX6_takeWaterBack 17 = .ok (.iconst 0, 1) := by decide +kernel
theorem dX6_takeWaterBack_18 : decode cX6_takeWaterBack 18 = .ok (.bipush 7, 2) := by decide +kernel
theorem dX6_takeWaterBack_20 : decode cX6_takeWaterBack 20 = .ok (.invokestatic 127, 3) := by decide +kernel
theorem dX6_takeWaterBack_23 : decode cX6_takeWaterBack 23 = .ok (.aload_n 0, 1) := by decide +kernel
theorem dX6_takeWaterBack_24 : decode cX6_takeWaterBack 24 = .ok (.getfield 12, 3) := by decide +kernel
theorem dX6_takeWaterBack_27 : decode cX6_takeWaterBack 27 = .ok (.getfield 112, 3) := by decide +kernel
theorem dX6_takeWaterBack_30 : decode cX6_takeWaterBack 30 = .ok (.aload_n 0, 1) := by decide +kernel
theorem dX6_takeWaterBack_31 : decode cX6_takeWaterBack 31 = .ok (.getfield 26, 3) := by decide +kernel
theorem dX6_takeWaterBack_34 : decode cX6_takeWaterBack 34 = .ok (.iload_n 1, 1) := by decide +kernel
theorem dX6_takeWaterBack_35 : decode cX6_takeWaterBack 35 = .ok (.iaload, 1) := by decide +kernel
theorem dX6_takeWaterBack_36 : decode cX6_takeWaterBack 36 = .ok (.putfield 116, 3) := by decide +kernel
theorem dX6_takeWaterBack_39 : decode cX6_takeWaterBack 39 = .ok (.aload_n 0, 1) := by decide +kernel
theorem dX6_takeWaterBack_40 : decode cX6_takeWaterBack 40 = .ok (.getfield 12, 3) := by decide +kernel
theorem dX6_takeWaterBack_43 : decode cX6_takeWaterBack 43 = .ok (.dup, 1) := by decide +kernel
theorem dX6_takeWaterBack_44 : decode cX6_takeWaterBack 44 = .ok (.getfield 133, 3) := by decide +kernel
theorem dX6_takeWaterBack_47 : decode cX6_takeWaterBack 47 = .ok (.iconst 1, 1) := by decide +kernel
theorem dX6_takeWaterBack_48 : decode cX6_takeWaterBack 48 = .ok (.isub, 1) := by decide +kernel
theorem dX6_takeWaterBack_49 : decode cX6_takeWaterBack 49 = .ok (.putfield 133, 3) := by decide +kernel
theorem dX6_takeWaterBack_52 : decode cX6_takeWaterBack 52 = .ok (.return_, 1) := by decide +kernel
theorem dX6_errandsAt_0 : decode cX6_errandsAt 0 = .ok (.iconst 0, 1) := by decide +kernel
theorem dX6_errandsAt_1 : decode cX6_errandsAt 1 = .ok (.istore_n 3, 1) := by decide +kernel
theorem dX6_errandsAt_2 : decode cX6_errandsAt 2 = .ok (.iconst 0, 1) := by decide +kernel
theorem dX6_errandsAt_3 : decode cX6_errandsAt 3 = .ok (.istore 4, 2) := by decide +kernel
theorem dX6_errandsAt_5 : decode cX6_errandsAt 5 = .ok (.iload 4, 2) := by decide +kernel
theorem dX6_errandsAt_7 : decode cX6_errandsAt 7 = .ok (.aload_n 0, 1) := by decide +kernel
theorem dX6_errandsAt_8 : decode cX6_errandsAt 8 = .ok (.getfield 12, 3) := by decide +kernel
theorem dX6_errandsAt_11 : decode cX6_errandsAt 11 = .ok (.getfield 70, 3) := by decide +kernel
theorem dX6_errandsAt_14 : decode cX6_errandsAt 14 = .ok (.if_icmp .ge 54, 3) := by decide +kernel
theorem dX6_errandsAt_17 : decode cX6_errandsAt 17 = .ok (.iload_n 1, 1) := by decide +kernel
theorem dX6_errandsAt_18 : decode cX6_errandsAt 18 = .ok (.iload 4, 2) := by decide +kernel
theorem dX6_errandsAt_20 : decode cX6_errandsAt 20 = .ok (.ishr, 1) := by decide +kernel
theorem dX6_errandsAt_21 : decode cX6_errandsAt 21 = .ok (.iconst 1, 1) := by decide +kernel
theorem dX6_errandsAt_22 : decode cX6_errandsAt 22 = .ok (.iand, 1) := by decide +kernel
theorem dX6_errandsAt_23 : decode cX6_errandsAt 23 = .ok (.iconst 1, 1) := by decide +kernel
theorem dX6_errandsAt_24 : decode cX6_errandsAt 24 = .ok (.if_icmp .ne 38, 3) := by decide +kernel
theorem dX6_errandsAt_27 : decode cX6_errandsAt 27 = .ok (.iload_n 2, 1) := by decide +kernel
theorem dX6_errandsAt_28 : decode cX6_errandsAt 28 = .ok (.aload_n 0, 1) := by decide +kernel
theorem dX6_errandsAt_29 : decode cX6_errandsAt 29 = .ok (.getfield 12, 3) := by decide +kernel
theorem dX6_errandsAt_32 : decode cX6_errandsAt 32 = .ok (.getfield 136, 3) := by decide +kernel
theorem dX6_errandsAt_35 : decode cX6_errandsAt 35 = .ok (.iload 4, 2) := by decide +kernel
theorem dX6_errandsAt_37 : decode cX6_errandsAt 37 = .ok (.iaload, 1) := by decide +kernel
theorem dX6_errandsAt_38 : decode cX6_errandsAt 38 = .ok (.if_icmp .lt 24, 3) := by decide +kernel
theorem dX6_errandsAt_41 : decode cX6_errandsAt 41 = .ok (.iload_n 2, 1) := by decide +kernel
theorem dX6_errandsAt_42 : decode cX6_errandsAt 42 = .ok (.aload_n 0, 1) := by decide +kernel
theorem dX6_errandsAt_43 : decode cX6_errandsAt 43 = .ok (.getfield 12, 3) := by decide +kernel
theorem dX6_errandsAt_46 : decode cX6_errandsAt 46 = .ok (.getfield 139, 3) := by decide +kernel
theorem dX6_errandsAt_49 : decode cX6_errandsAt 49 = .ok (.iload 4, 2) := by decide +kernel
theorem dX6_errandsAt_51 : decode cX6_errandsAt 51 = .ok (.iaload, 1) := by decide +kernel
theorem dX6_errandsAt_52 : decode cX6_errandsAt 52 = .ok (.if_icmp .gt 10, 3) := by decide +kernel
theorem dX6_errandsAt_55 : decode cX6_errandsAt 55 = .ok (.iload_n 3, 1) := by decide +kernel
theorem dX6_errandsAt_56 : decode cX6_errandsAt 56 = .ok (.iconst 1, 1) := by decide +kernel
theorem dX6_errandsAt_57 : decode cX6_errandsAt 57 = .ok (.iload 4, 2) := by decide +kernel
theorem dX6_errandsAt_59 : decode cX6_errandsAt 59 = .ok (.ishl, 1) := by decide +kernel
theorem dX6_errandsAt_60 : decode cX6_errandsAt 60 = .ok (.ior, 1) := by decide +kernel
theorem dX6_errandsAt_61 : decode cX6_errandsAt 61 = .ok (.istore_n 3, 1) := by decide +kernel
theorem dX6_errandsAt_62 : decode cX6_errandsAt 62 = .ok (.iinc 4 1, 3) := by decide +kernel
theorem dX6_errandsAt_65 : decode cX6_errandsAt 65 = .ok (.goto (-60), 3) := by decide +kernel
theorem dX6_errandsAt_68 : decode cX6_errandsAt 68 = .ok (.iload_n 3, 1) := by decide +kernel
theorem dX6_errandsAt_69 : decode cX6_errandsAt 69 = .ok (.ireturn, 1) := by decide +kernel
theorem dX6_errandsLater_0 : decode cX6_errandsLater 0 = .ok (.iconst 0, 1) := by decide +kernel
theorem dX6_errandsLater_1 : decode cX6_errandsLater 1 = .ok (.istore 4, 2) := by decide +kernel
theorem dX6_errandsLater_3 : decode cX6_errandsLater 3 = .ok (.iconst 0, 1) := by decide +kernel
theorem dX6_errandsLater_4 : decode cX6_errandsLater 4 = .ok (.istore 5, 2) := by decide +kernel
theorem dX6_errandsLater_6 : decode cX6_errandsLater 6 = .ok (.iload 5, 2) := by decide +kernel
theorem dX6_errandsLater_8 : decode cX6_errandsLater 8 = .ok (.bipush 12, 2) := by decide +kernel
theorem dX6_errandsLater_10 : decode cX6_errandsLater 10 = .ok (.iload_n 2, 1) := by decide +kernel
theorem dX6_errandsLater_11 : decode cX6_errandsLater 11 = .ok (.isub, 1) := by decide +kernel
theorem dX6_errandsLater_12 : decode cX6_errandsLater 12 = .ok (.if_icmp .ge 26, 3) := by decide +kernel
theorem dX6_errandsLater_15 : decode cX6_errandsLater 15 = .ok (.iload 4, 2) := by decide +kernel
theorem dX6_errandsLater_17 : decode cX6_errandsLater 17 = .ok (.aload_n 0, 1) := by decide +kernel
theorem dX6_errandsLater_18 : decode cX6_errandsLater 18 = .ok (.iload_n 1, 1) := by decide +kernel
theorem dX6_errandsLater_19 : decode cX6_errandsLater 19 = .ok (.iload_n 3, 1) := by decide +kernel
theorem dX6_errandsLater_20 : decode cX6_errandsLater 20 = .ok (.iload 5, 2) := by decide +kernel
theorem dX6_errandsLater_22 : decode cX6_errandsLater 22 = .ok (.iadd, 1) := by decide +kernel
theorem dX6_errandsLater_23 : decode cX6_errandsLater 23 = .ok (.bipush 12, 2) := by decide +kernel
theorem dX6_errandsLater_25 : decode cX6_errandsLater 25 = .ok (.irem, 1) := by decide +kernel
theorem dX6_errandsLater_26 : decode cX6_errandsLater 26 = .ok (.invokevirtual 90, 3) := by decide +kernel
theorem dX6_errandsLater_29 : decode cX6_errandsLater 29 = .ok (.ior, 1) := by decide +kernel
theorem dX6_errandsLater_30 : decode cX6_errandsLater 30 = .ok (.istore 4, 2) := by decide +kernel
theorem dX6_errandsLater_32 : decode cX6_errandsLater 32 = .ok (.iinc 5 1, 3) := by decide +kernel
theorem dX6_errandsLater_35 : decode cX6_errandsLater 35 = .ok (.goto (-29), 3) := by decide +kernel
theorem dX6_errandsLater_38 : decode cX6_errandsLater 38 = .ok (.iload 4, 2) := by decide +kernel
theorem dX6_errandsLater_40 : decode cX6_errandsLater 40 = .ok (.ireturn, 1) := by decide +kernel
theorem dX6_doorsOf_0 : decode cX6_doorsOf 0 = .ok (.iconst 0, 1) := by decide +kernel
theorem dX6_doorsOf_1 : decode cX6_doorsOf 1 = .ok (.istore_n 2, 1) := by decide +kernel
theorem dX6_doorsOf_2 : decode cX6_doorsOf 2 = .ok (.iconst 0, 1) := by decide +kernel
theorem dX6_doorsOf_3 : decode cX6_doorsOf 3 = .ok (.istore_n 3, 1) := by decide +kernel
theorem dX6_doorsOf_4 : decode cX6_doorsOf 4 = .ok (.iload_n 3, 1) := by decide +kernel
theorem dX6_doorsOf_5 : decode cX6_doorsOf 5 = .ok (.aload_n 0, 1) := by decide +kernel
theorem dX6_doorsOf_6 : decode cX6_doorsOf 6 = .ok (.getfield 12, 3) := by decide +kernel
theorem dX6_doorsOf_9 : decode cX6_doorsOf 9 = .ok (.getfield 70, 3) := by decide +kernel
theorem dX6_doorsOf_12 : decode cX6_doorsOf 12 = .ok (.if_icmp .ge 32, 3) := by decide +kernel
theorem dX6_doorsOf_15 : decode cX6_doorsOf 15 = .ok (.iload_n 1, 1) := by decide +kernel
theorem dX6_doorsOf_16 : decode cX6_doorsOf 16 = .ok (.iload_n 3, 1) := by decide +kernel
theorem dX6_doorsOf_17 : decode cX6_doorsOf 17 = .ok (.ishr, 1) := by decide +kernel
theorem dX6_doorsOf_18 : decode cX6_doorsOf 18 = .ok (.iconst 1, 1) := by decide +kernel
theorem dX6_doorsOf_19 : decode cX6_doorsOf 19 = .ok (.iand, 1) := by decide +kernel
theorem dX6_doorsOf_20 : decode cX6_doorsOf 20 = .ok (.iconst 1, 1) := by decide +kernel
theorem dX6_doorsOf_21 : decode cX6_doorsOf 21 = .ok (.if_icmp .ne 17, 3) := by decide +kernel
theorem dX6_doorsOf_24 : decode cX6_doorsOf 24 = .ok (.iload_n 2, 1) := by decide +kernel
theorem dX6_doorsOf_25 : decode cX6_doorsOf 25 = .ok (.iconst 1, 1) := by decide +kernel
theorem dX6_doorsOf_26 : decode cX6_doorsOf 26 = .ok (.aload_n 0, 1) := by decide +kernel
theorem dX6_doorsOf_27 : decode cX6_doorsOf 27 = .ok (.getfield 12, 3) := by decide +kernel
theorem dX6_doorsOf_30 : decode cX6_doorsOf 30 = .ok (.getfield 142, 3) := by decide +kernel
theorem dX6_doorsOf_33 : decode cX6_doorsOf 33 = .ok (.iload_n 3, 1) := by decide +kernel
theorem dX6_doorsOf_34 : decode cX6_doorsOf 34 = .ok (.iaload, 1) := by decide +kernel
theorem dX6_doorsOf_35 : decode cX6_doorsOf 35 = .ok (.ishl, 1) := by decide +kernel
theorem dX6_doorsOf_36 : decode cX6_doorsOf 36 = .ok (.ior, 1) := by decide +kernel
theorem dX6_doorsOf_37 : decode cX6_doorsOf 37 = .ok (.istore_n 2, 1) := by decide +kernel
theorem dX6_doorsOf_38 : decode cX6_doorsOf 38 = .ok (.iinc 3 1, 3) := by decide +kernel
theorem dX6_doorsOf_41 : decode cX6_doorsOf 41 = .ok (.goto (-37), 3) := by decide +kernel
theorem dX6_doorsOf_44 : decode cX6_doorsOf 44 = .ok (.iload_n 2, 1) := by decide +kernel
theorem dX6_doorsOf_45 : decode cX6_doorsOf 45 = .ok (.ireturn, 1) := by decide +kernel
theorem dX6_hoursOf_0 : decode cX6_hoursOf 0 = .ok (.iconst 0, 1) := by decide +kernel
theorem dX6_hoursOf_1 : decode cX6_hoursOf 1 = .ok (.istore_n 3, 1) := by decide +kernel
theorem dX6_hoursOf_2 : decode cX6_hoursOf 2 = .ok (.iconst 0, 1) := by decide +kernel
theorem dX6_hoursOf_3 : decode cX6_hoursOf 3 = .ok (.istore 4, 2) := by decide +kernel
theorem dX6_hoursOf_5 : decode cX6_hoursOf 5 = .ok (.iload 4, 2) := by decide +kernel
theorem dX6_hoursOf_7 : decode cX6_hoursOf 7 = .ok (.aload_n 0, 1) := by decide +kernel
theorem dX6_hoursOf_8 : decode cX6_hoursOf 8 = .ok (.getfield 12, 3) := by decide +kernel
theorem dX6_hoursOf_11 : decode cX6_hoursOf 11 = .ok (.getfield 70, 3) := by decide +kernel
theorem dX6_hoursOf_14 : decode cX6_hoursOf 14 = .ok (.if_icmp .ge 29, 3) := by decide +kernel
theorem dX6_hoursOf_17 : decode cX6_hoursOf 17 = .ok (.iload_n 1, 1) := by decide +kernel
theorem dX6_hoursOf_18 : decode cX6_hoursOf 18 = .ok (.iload 4, 2) := by decide +kernel
theorem dX6_hoursOf_20 : decode cX6_hoursOf 20 = .ok (.ishr, 1) := by decide +kernel
theorem dX6_hoursOf_21 : decode cX6_hoursOf 21 = .ok (.iconst 1, 1) := by decide +kernel
theorem dX6_hoursOf_22 : decode cX6_hoursOf 22 = .ok (.iand, 1) := by decide +kernel
theorem dX6_hoursOf_23 : decode cX6_hoursOf 23 = .ok (.iconst 1, 1) := by decide +kernel
theorem dX6_hoursOf_24 : decode cX6_hoursOf 24 = .ok (.if_icmp .ne 13, 3) := by decide +kernel
theorem dX6_hoursOf_27 : decode cX6_hoursOf 27 = .ok (.iload_n 3, 1) := by decide +kernel
theorem dX6_hoursOf_28 : decode cX6_hoursOf 28 = .ok (.iload_n 2, 1) := by decide +kernel
theorem dX6_hoursOf_29 : decode cX6_hoursOf 29 = .ok (.iload 4, 2) := by decide +kernel
theorem dX6_hoursOf_31 : decode cX6_hoursOf 31 = .ok (.invokestatic 77, 3) := by decide +kernel
theorem dX6_hoursOf_34 : decode cX6_hoursOf 34 = .ok (.ishl, 1) := by decide +kernel
theorem dX6_hoursOf_35 : decode cX6_hoursOf 35 = .ok (.ior, 1) := by decide +kernel
theorem dX6_hoursOf_36 : decode cX6_hoursOf 36 = .ok (.istore_n 3, 1) := by decide +kernel
theorem dX6_hoursOf_37 : decode cX6_hoursOf 37 = .ok (.iinc 4 1, 3) := by decide +kernel
theorem dX6_hoursOf_40 : decode cX6_hoursOf 40 = .ok (.goto (-35), 3) := by decide +kernel
theorem dX6_hoursOf_43 : decode cX6_hoursOf 43 = .ok (.iload_n 3, 1) := by decide +kernel
theorem dX6_hoursOf_44 : decode cX6_hoursOf 44 = .ok (.ireturn, 1) := by decide +kernel
theorem dX6_planPumps_0 : decode cX6_planPumps 0 = .ok (.aload_n 0, 1) := by decide +kernel
theorem dX6_planPumps_1 : decode cX6_planPumps 1 = .ok (.getfield 12, 3) := by decide +kernel
theorem dX6_planPumps_4 : decode cX6_planPumps 4 = .ok (.aload_n 1, 1) := by decide +kernel
theorem dX6_planPumps_5 : decode cX6_planPumps 5 = .ok (.invokevirtual 50, 3) := by decide +kernel
theorem dX6_planPumps_8 : decode cX6_planPumps 8 = .ok (.aload_n 0, 1) := by decide +kernel
theorem dX6_planPumps_9 : decode cX6_planPumps 9 = .ok (.ldc 145, 2) := by decide +kernel
theorem dX6_planPumps_11 : decode cX6_planPumps 11 = .ok (.putfield 64, 3) := by decide +kernel
theorem dX6_planPumps_14 : decode cX6_planPumps 14 = .ok (.aload_n 0, 1) := by decide +kernel
theorem dX6_planPumps_15 : decode cX6_planPumps 15 = .ok (.iconst 0, 1) := by decide +kernel
theorem dX6_planPumps_16 : decode cX6_planPumps 16 = .ok (.putfield 67, 3) := by decide +kernel
theorem dX6_planPumps_19 : decode cX6_planPumps 19 = .ok (.iconst 0, 1) := by decide +kernel
theorem dX6_planPumps_20 : decode cX6_planPumps 20 = .ok (.istore_n 3, 1) := by decide +kernel
theorem dX6_planPumps_21 : decode cX6_planPumps 21 = .ok (.iload_n 3, 1) := by decide +kernel
theorem dX6_planPumps_22 : decode cX6_planPumps 22 = .ok (.sipush 4095, 3) := by decide +kernel
theorem dX6_planPumps_25 : decode cX6_planPumps 25 = .ok (.if_icmp .gt 64, 3) := by decide +kernel
theorem dX6_planPumps_28 : decode cX6_planPumps 28 = .ok (.iload_n 3, 1) := by decide +kernel
theorem dX6_planPumps_29 : decode cX6_planPumps 29 = .ok (.invokestatic 40, 3) := by decide +kernel
theorem dX6_planPumps_32 : decode cX6_planPumps 32 = .ok (.iload_n 2, 1) := by decide +kernel
theorem dX6_planPumps_33 : decode cX6_planPumps 33 = .ok (.if_icmp .ne 50, 3) := by decide +kernel
theorem dX6_planPumps_36 : decode cX6_planPumps 36 = .ok (.aload_n 0, 1) := by decide +kernel
theorem dX6_planPumps_37 : decode cX6_planPumps 37 = .ok (.getfield 12, 3) := by decide +kernel
theorem dX6_planPumps_40 : decode cX6_planPumps 40 = .ok (.aload_n 1, 1) := by decide +kernel
theorem dX6_planPumps_41 : decode cX6_planPumps 41 = .ok (.invokevirtual 146, 3) := by decide +kernel
theorem dX6_planPumps_44 : decode cX6_planPumps 44 = .ok (.aload_n 0, 1) := by decide +kernel
theorem dX6_planPumps_45 : decode cX6_planPumps 45 = .ok (.getfield 12, 3) := by decide +kernel
theorem dX6_planPumps_48 : decode cX6_planPumps 48 = .ok (.iload_n 3, 1) := by decide +kernel
theorem dX6_planPumps_49 : decode cX6_planPumps 49 = .ok (.putfield 149, 3) := by decide +kernel
theorem dX6_planPumps_52 : decode cX6_planPumps 52 = .ok (.aload_n 0, 1) := by decide +kernel
theorem dX6_planPumps_53 : decode cX6_planPumps 53 = .ok (.getfield 12, 3) := by decide +kernel
theorem dX6_planPumps_56 : decode cX6_planPumps 56 = .ok (.bipush 12, 2) := by decide +kernel
theorem dX6_planPumps_58 : decode cX6_planPumps 58 = .ok (.invokevirtual 152, 3) := by decide +kernel
theorem dX6_planPumps_61 : decode cX6_planPumps 61 = .ok (.istore 4, 2) := by decide +kernel
theorem dX6_planPumps_63 : decode cX6_planPumps 63 = .ok (.iload 4, 2) := by decide +kernel
theorem dX6_planPumps_65 : decode cX6_planPumps 65 = .ok (.aload_n 0, 1) := by decide +kernel
theorem dX6_planPumps_66 : decode cX6_planPumps 66 = .ok (.getfield 64, 3) := by decide +kernel
theorem dX6_planPumps_69 : decode cX6_planPumps 69 = .ok (.if_icmp .ge 14, 3) := by decide +kernel
theorem dX6_planPumps_72 : decode cX6_planPumps 72 = .ok (.aload_n 0, 1) := by decide +kernel
theorem dX6_planPumps_73 : decode cX6_planPumps 73 = .ok (.iload 4, 2) := by decide +kernel
theorem dX6_planPumps_75 : decode cX6_planPumps 75 = .ok (.putfield 64, 3) := by decide +kernel
theorem dX6_planPumps_78 : decode cX6_planPumps 78 = .ok (.aload_n 0, 1) := by decide +kernel
theorem dX6_planPumps_79 : decode cX6_planPumps 79 = .ok (.iload_n 3, 1) := by decide +kernel
theorem dX6_planPumps_80 : decode cX6_planPumps 80 = .ok (.putfield 67, 3) := by decide +kernel
theorem dX6_planPumps_83 : decode cX6_planPumps 83 = .ok (.iinc 3 1, 3) := by decide +kernel
theorem dX6_planPumps_86 : decode cX6_planPumps 86 = .ok (.goto (-65), 3) := by decide +kernel
theorem dX6_planPumps_89 : decode cX6_planPumps 89 = .ok (.return_, 1) := by decide +kernel
theorem dX6_damageBy_0 : decode cX6_damageBy 0 = .ok (.aload_n 0, 1) := by decide +kernel
theorem dX6_damageBy_1 : decode cX6_damageBy 1 = .ok (.getfield 12, 3) := by decide +kernel
theorem dX6_damageBy_4 : decode cX6_damageBy 4 = .ok (.aload_n 1, 1) := by decide +kernel
theorem dX6_damageBy_5 : decode cX6_damageBy 5 = .ok (.invokevirtual 50, 3) := by decide +kernel
theorem dX6_damageBy_8 : decode cX6_damageBy 8 = .ok (.aload_n 0, 1) := by decide +kernel
theorem dX6_damageBy_9 : decode cX6_damageBy 9 = .ok (.getfield 12, 3) := by decide +kernel
theorem dX6_damageBy_12 : decode cX6_damageBy 12 = .ok (.getfield 54, 3) := by decide +kernel
theorem dX6_damageBy_15 : decode cX6_damageBy 15 = .ok (.iload_n 2, 1) := by decide +kernel
theorem dX6_damageBy_16 : decode cX6_damageBy 16 = .ok (.invokevirtual 155, 3) := by decide +kernel
theorem dX6_damageBy_19 : decode cX6_damageBy 19 = .ok (.aload_n 0, 1) := by decide +kernel
theorem dX6_damageBy_20 : decode cX6_damageBy 20 = .ok (.getfield 12, 3) := by decide +kernel
theorem dX6_damageBy_23 : decode cX6_damageBy 23 = .ok (.bipush 12, 2) := by decide +kernel
theorem dX6_damageBy_25 : decode cX6_damageBy 25 = .ok (.invokevirtual 152, 3) := by decide +kernel
theorem dX6_damageBy_28 : decode cX6_damageBy 28 = .ok (.ireturn, 1) := by decide +kernel
theorem dX6_ordersOf_0 : decode cX6_ordersOf 0 = .ok (.iload_n 0, 1) := by decide +kernel
theorem dX6_ordersOf_1 : decode cX6_ordersOf 1 = .ok (.invokestatic 40, 3) := by decide +kernel
theorem dX6_ordersOf_4 : decode cX6_ordersOf 4 = .ok (.istore_n 1, 1) := by decide +kernel
theorem dX6_ordersOf_5 : decode cX6_ordersOf 5 = .ok (.iload_n 1, 1) := by decide +kernel
theorem dX6_ordersOf_6 : decode cX6_ordersOf 6 = .ok (.getstatic 158, 3) := by decide +kernel
theorem dX6_ordersOf_9 : decode cX6_ordersOf 9 = .ok (.arraylength, 1) := by decide +kernel
theorem dX6_ordersOf_10 : decode cX6_ordersOf 10 = .ok (.if_icmp .ge 11, 3) := by decide +kernel
theorem dX6_ordersOf_13 : decode cX6_ordersOf 13 = .ok (.getstatic 158, 3) := by decide +kernel
theorem dX6_ordersOf_16 : decode cX6_ordersOf 16 = .ok (.iload_n 1, 1) := by decide +kernel
theorem dX6_ordersOf_17 : decode cX6_ordersOf 17 = .ok (.iaload, 1) := by decide +kernel
theorem dX6_ordersOf_18 : decode cX6_ordersOf 18 = .ok (.goto 4, 3) := by decide +kernel
theorem dX6_ordersOf_21 : decode cX6_ordersOf 21 = .ok (.iconst 1, 1) := by decide +kernel
theorem dX6_ordersOf_22 : decode cX6_ordersOf 22 = .ok (.ireturn, 1) := by decide +kernel
theorem dX6_shareOfOrders_0 : decode cX6_shareOfOrders 0 = .ok (.iload_n 3, 1) := by decide +kernel
theorem dX6_shareOfOrders_1 : decode cX6_shareOfOrders 1 = .ok (.iconst 1, 1) := by decide +kernel
theorem dX6_shareOfOrders_2 : decode cX6_shareOfOrders 2 = .ok (.iload_n 2, 1) := by decide +kernel
theorem dX6_shareOfOrders_3 : decode cX6_shareOfOrders 3 = .ok (.ishl, 1) := by decide +kernel
theorem dX6_shareOfOrders_4 : decode cX6_shareOfOrders 4 = .ok (.iconst (-1), 1) := by decide +kernel
theorem dX6_shareOfOrders_5 : decode cX6_shareOfOrders 5 = .ok (.ixor, 1) := by decide +kernel
theorem dX6_shareOfOrders_6 : decode cX6_shareOfOrders 6 = .ok (.iand, 1) := by decide +kernel
theorem dX6_shareOfOrders_7 : decode cX6_shareOfOrders 7 = .ok (.istore 4, 2) := by decide +kernel
theorem dX6_shareOfOrders_9 : decode cX6_shareOfOrders 9 = .ok (.lconst 0, 1) := by decide +kernel
theorem dX6_shareOfOrders_10 : decode cX6_shareOfOrders 10 = .ok (.lstore 5, 2) := by decide +kernel
theorem dX6_shareOfOrders_12 : decode cX6_shareOfOrders 12 = .ok (.iconst 0, 1) := by decide +kernel
theorem dX6_shareOfOrders_13 : decode cX6_shareOfOrders 13 = .ok (.istore 7, 2) := by decide +kernel
theorem dX6_shareOfOrders_15 : decode cX6_shareOfOrders 15 = .ok (.iload 7, 2) := by decide +kernel
theorem dX6_shareOfOrders_17 : decode cX6_shareOfOrders 17 = .ok (.iload 4, 2) := by decide +kernel
theorem dX6_shareOfOrders_19 : decode cX6_shareOfOrders 19 = .ok (.if_icmp .gt 67, 3) := by decide +kernel
theorem dX6_shareOfOrders_22 : decode cX6_shareOfOrders 22 = .ok (.iload 7, 2) := by decide +kernel
theorem dX6_shareOfOrders_24 : decode cX6_shareOfOrders 24 = .ok (.iload 4, 2) := by decide +kernel
theorem dX6_shareOfOrders_26 : decode cX6_shareOfOrders 26 = .ok (.iconst (-1), 1) := by decide +kernel
theorem dX6_shareOfOrders_27 : decode cX6_shareOfOrders 27 = .ok (.ixor, 1) := by decide +kernel
theorem dX6_shareOfOrders_28 : decode cX6_shareOfOrders 28 = .ok (.iand, 1) := by decide +kernel
theorem dX6_shareOfOrders_29 : decode cX6_shareOfOrders 29 = .ok (.ifCond .ne 51, 3) := by decide +kernel
theorem dX6_shareOfOrders_32 : decode cX6_shareOfOrders 32 = .ok (.iload 7, 2) := by decide +kernel
theorem dX6_shareOfOrders_34 : decode cX6_shareOfOrders 34 = .ok (.invokestatic 161, 3) := by decide +kernel
theorem dX6_shareOfOrders_37 : decode cX6_shareOfOrders 37 = .ok (.i2l, 1) := by decide +kernel
theorem dX6_shareOfOrders_38 : decode cX6_shareOfOrders 38 = .ok (.iload 4, 2) := by decide +kernel
theorem dX6_shareOfOrders_40 : decode cX6_shareOfOrders 40 = .ok (.iload 7, 2) := by decide +kernel
theorem dX6_shareOfOrders_42 : decode cX6_shareOfOrders 42 = .ok (.iconst (-1), 1) := by decide +kernel
theorem dX6_shareOfOrders_43 : decode cX6_shareOfOrders 43 = .ok (.ixor, 1) := by decide +kernel
theorem dX6_shareOfOrders_44 : decode cX6_shareOfOrders 44 = .ok (.iand, 1) := by decide +kernel
theorem dX6_shareOfOrders_45 : decode cX6_shareOfOrders 45 = .ok (.invokestatic 161, 3) := by decide +kernel
theorem dX6_shareOfOrders_48 : decode cX6_shareOfOrders 48 = .ok (.i2l, 1) := by decide +kernel
theorem dX6_shareOfOrders_49 : decode cX6_shareOfOrders 49 = .ok (.lmul, 1) := by decide +kernel
theorem dX6_shareOfOrders_50 : decode cX6_shareOfOrders 50 = .ok (.lstore 8, 2) := by decide +kernel
theorem dX6_shareOfOrders_52 : decode cX6_shareOfOrders 52 = .ok (.lload 5, 2) := by decide +kernel
theorem dX6_shareOfOrders_54 : decode cX6_shareOfOrders 54 = .ok (.lload 8, 2) := by decide +kernel
theorem dX6_shareOfOrders_56 : decode cX6_shareOfOrders 56 = .ok (.aload_n 0, 1) := by decide +kernel
theorem dX6_shareOfOrders_57 : decode cX6_shareOfOrders 57 = .ok (.aload_n 1, 1) := by decide +kernel
theorem dX6_shareOfOrders_58 : decode cX6_shareOfOrders 58 = .ok (.iload 7, 2) := by decide +kernel
theorem dX6_shareOfOrders_60 : decode cX6_shareOfOrders 60 = .ok (.iconst 1, 1) := by decide +kernel
theorem dX6_shareOfOrders_61 : decode cX6_shareOfOrders 61 = .ok (.iload_n 2, 1) := by decide +kernel
theorem dX6_shareOfOrders_62 : decode cX6_shareOfOrders 62 = .ok (.ishl, 1) := by decide +kernel
theorem dX6_shareOfOrders_63 : decode cX6_shareOfOrders 63 = .ok (.ior, 1) := by decide +kernel
theorem dX6_shareOfOrders_64 : decode cX6_shareOfOrders 64 = .ok (.invokevirtual 164, 3) := by decide +kernel
theorem dX6_shareOfOrders_67 : decode cX6_shareOfOrders 67 = .ok (.aload_n 0, 1) := by decide +kernel
theorem dX6_shareOfOrders_68 : decode cX6_shareOfOrders 68 = .ok (.aload_n 1, 1) := by decide +kernel
theorem dX6_shareOfOrders_69 : decode cX6_shareOfOrders 69 = .ok (.iload 7, 2) := by decide +kernel
theorem dX6_shareOfOrders_71 : decode cX6_shareOfOrders 71 = .ok (.invokevirtual 164, 3) := by decide +kernel
theorem dX6_shareOfOrders_74 : decode cX6_shareOfOrders 74 = .ok (.isub, 1) := by decide +kernel
theorem dX6_shareOfOrders_75 : decode cX6_shareOfOrders 75 = .ok (.i2l, 1) := by decide +kernel
theorem dX6_shareOfOrders_76 : decode cX6_shareOfOrders 76 = .ok (.lmul, 1) := by decide +kernel
theorem dX6_shareOfOrders_77 : decode cX6_shareOfOrders 77 = .ok (.ladd, 1) := by decide +kernel
theorem dX6_shareOfOrders_78 : decode cX6_shareOfOrders 78 = .ok (.lstore 5, 2) := by decide +kernel
theorem dX6_shareOfOrders_80 : decode cX6_shareOfOrders 80 = .ok (.iinc 7 1, 3) := by decide +kernel
theorem dX6_shareOfOrders_83 : decode cX6_shareOfOrders 83 = .ok (.goto (-68), 3) := by decide +kernel
theorem dX6_shareOfOrders_86 : decode cX6_shareOfOrders 86 = .ok (.lload 5, 2) := by decide +kernel
theorem dX6_shareOfOrders_88 : decode cX6_shareOfOrders 88 = .ok (.lreturn, 1) := by decide +kernel
theorem dX6_findPrints_0 : decode cX6_findPrints 0 = .ok (.iconst 0, 1) := by decide +kernel
theorem dX6_findPrints_1 : decode cX6_findPrints 1 = .ok (.istore_n 2, 1) := by decide +kernel
theorem dX6_findPrints_2 : decode cX6_findPrints 2 = .ok (.iload_n 2, 1) := by decide +kernel
theorem dX6_findPrints_3 : decode cX6_findPrints 3 = .ok (.aload_n 1, 1) := by decide +kernel
theorem dX6_findPrints_4 : decode cX6_findPrints 4 = .ok (.getfield 54, 3) := by decide +kernel
theorem dX6_findPrints_7 : decode cX6_findPrints 7 = .ok (.getfield 168, 3) := by decide +kernel
theorem dX6_findPrints_10 : decode cX6_findPrints 10 = .ok (.if_icmp .ge 73, 3) := by decide +kernel
theorem dX6_findPrints_13 : decode cX6_findPrints 13 = .ok (.aload_n 0, 1) := by decide +kernel
theorem dX6_findPrints_14 : decode cX6_findPrints 14 = .ok (.getfield 12, 3) := by decide +kernel
theorem dX6_findPrints_17 : decode cX6_findPrints 17 = .ok (.aload_n 1, 1) := by decide +kernel
theorem dX6_findPrints_18 : decode cX6_findPrints 18 = .ok (.invokevirtual 50, 3) := by decide +kernel
theorem dX6_findPrints_21 : decode cX6_findPrints 21 = .ok (.aload_n 0, 1) := by decide +kernel
theorem dX6_findPrints_22 : decode cX6_findPrints 22 = .ok (.getfield 12, 3) := by decide +kernel
theorem dX6_findPrints_25 : decode cX6_findPrints 25 = .ok (.getfield 112, 3) := by decide +kernel
theorem dX6_findPrints_28 : decode cX6_findPrints 28 = .ok (.invokevirtual 171, 3) := by decide +kernel
theorem dX6_findPrints_31 : decode cX6_findPrints 31 = .ok (.pop, 1) := by decide +kernel
theorem dX6_findPrints_32 : decode cX6_findPrints 32 = .ok (.aload_n 0, 1) := by decide +kernel
theorem dX6_findPrints_33 : decode cX6_findPrints 33 = .ok (.getfield 12, 3) := by decide +kernel
theorem dX6_findPrints_36 : decode cX6_findPrints 36 = .ok (.getfield 54, 3) := by decide +kernel
theorem dX6_findPrints_39 : decode cX6_findPrints 39 = .ok (.iconst 1, 1) := by decide +kernel
theorem dX6_findPrints_40 : decode cX6_findPrints 40 = .ok (.iload_n 2, 1) := by decide +kernel
theorem dX6_findPrints_41 : decode cX6_findPrints 41 = .ok (.ishl, 1) := by decide +kernel
theorem dX6_findPrints_42 : decode cX6_findPrints 42 = .ok (.invokevirtual 155, 3) := by decide +kernel
theorem dX6_findPrints_45 : decode cX6_findPrints 45 = .ok (.aload_n 0, 1) := by decide +kernel
theorem dX6_findPrints_46 : decode cX6_findPrints 46 = .ok (.getfield 12, 3) := by decide +kernel
theorem dX6_findPrints_49 : decode cX6_findPrints 49 = .ok (.bipush 12, 2) := by decide +kernel
theorem dX6_findPrints_51 : decode cX6_findPrints 51 = .ok (.invokevirtual 174, 3) := by decide +kernel
theorem dX6_findPrints_54 : decode cX6_findPrints 54 = .ok (.aload_n 0, 1) := by decide +kernel
theorem dX6_findPrints_55 : decode cX6_findPrints 55 = .ok (.getfield 12, 3) := by decide +kernel
theorem dX6_findPrints_58 : decode cX6_findPrints 58 = .ok (.getfield 112, 3) := by decide +kernel
theorem dX6_findPrints_61 : decode cX6_findPrints 61 = .ok (.getfield 177, 3) := by decide +kernel
theorem dX6_findPrints_64 : decode cX6_findPrints 64 = .ok (.iconst 0, 1) := by decide +kernel
theorem dX6_findPrints_65 : decode cX6_findPrints 65 = .ok (.aload_n 0, 1) := by decide +kernel
theorem dX6_findPrints_66 : decode cX6_findPrints 66 = .ok (.getfield 20, 3) := by decide +kernel
theorem dX6_findPrints_69 : decode cX6_findPrints 69 = .ok (.iload_n 2, 1) := by decide +kernel
theorem dX6_findPrints_70 : decode cX6_findPrints 70 = .ok (.aaload, 1) := by decide +kernel
theorem dX6_findPrints_71 : decode cX6_findPrints 71 = .ok (.iconst 0, 1) := by decide +kernel
theorem dX6_findPrints_72 : decode cX6_findPrints 72 = .ok (.bipush 7, 2) := by decide +kernel
theorem dX6_findPrints_74 : decode cX6_findPrints 74 = .ok (.invokestatic 127, 3) := by decide +kernel
theorem dX6_findPrints_77 : decode cX6_findPrints 77 = .ok (.iinc 2 1, 3) := by decide +kernel
theorem dX6_findPrints_80 : decode cX6_findPrints 80 = .ok (.goto (-78), 3) := by decide +kernel
theorem dX6_findPrints_83 : decode cX6_findPrints 83 = .ok (.return_, 1) := by decide +kernel
theorem dX6_unlikeMarks_0 : decode cX6_unlikeMarks 0 = .ok (.iconst 0, 1) := by decide +kernel
theorem dX6_unlikeMarks_1 : decode cX6_unlikeMarks 1 = .ok (.istore_n 3, 1) := by decide +kernel
theorem dX6_unlikeMarks_2 : decode cX6_unlikeMarks 2 = .ok (.iconst 0, 1) := by decide +kernel
theorem dX6_unlikeMarks_3 : decode cX6_unlikeMarks 3 = .ok (.istore 4, 2) := by decide +kernel
theorem dX6_unlikeMarks_5 : decode cX6_unlikeMarks 5 = .ok (.iload 4, 2) := by decide +kernel
theorem dX6_unlikeMarks_7 : decode cX6_unlikeMarks 7 = .ok (.aload_n 1, 1) := by decide +kernel
theorem dX6_unlikeMarks_8 : decode cX6_unlikeMarks 8 = .ok (.getfield 168, 3) := by decide +kernel
theorem dX6_unlikeMarks_11 : decode cX6_unlikeMarks 11 = .ok (.if_icmp .ge 32, 3) := by decide +kernel
theorem dX6_unlikeMarks_14 : decode cX6_unlikeMarks 14 = .ok (.aload_n 1, 1) := by decide +kernel
theorem dX6_unlikeMarks_15 : decode cX6_unlikeMarks 15 = .ok (.iload 4, 2) := by decide +kernel
theorem dX6_unlikeMarks_17 : decode cX6_unlikeMarks 17 = .ok (.invokevirtual 180, 3) := by decide +kernel
theorem dX6_unlikeMarks_20 : decode cX6_unlikeMarks 20 = .ok (.ifCond .ne 17, 3) := by decide +kernel
theorem dX6_unlikeMarks_23 : decode cX6_unlikeMarks 23 = .ok (.aload_n 0, 1) := by decide +kernel
theorem dX6_unlikeMarks_24 : decode cX6_unlikeMarks 24 = .ok (.aload_n 1, 1) := by decide +kernel
theorem dX6_unlikeMarks_25 : decode cX6_unlikeMarks 25 = .ok (.iload 4, 2) := by decide +kernel
theorem dX6_unlikeMarks_27 : decode cX6_unlikeMarks 27 = .ok (.iload_n 2, 1) := by decide +kernel
theorem dX6_unlikeMarks_28 : decode cX6_unlikeMarks 28 = .ok (.invokevirtual 184, 3) := by decide +kernel
theorem dX6_unlikeMarks_31 : decode cX6_unlikeMarks 31 = .ok (.ifCond .ne 6, 3) := by decide +kernel
theorem dX6_unlikeMarks_34 : decode cX6_unlikeMarks 34 = .ok (.iinc 3 1, 3) := by decide +kernel
theorem dX6_unlikeMarks_37 : decode cX6_unlikeMarks 37 = .ok (.iinc 4 1, 3) := by decide +kernel
theorem dX6_unlikeMarks_40 : decode cX6_unlikeMarks 40 = .ok (.goto (-35), 3) := by decide +kernel
theorem dX6_unlikeMarks_43 : decode cX6_unlikeMarks 43 = .ok (.iload_n 3, 1) := by decide +kernel
theorem dX6_unlikeMarks_44 : decode cX6_unlikeMarks 44 = .ok (.ireturn, 1) := by decide +kernel
theorem dX6_isAmong_0 : decode cX6_isAmong 0 = .ok (.iconst 0, 1) := by decide +kernel
theorem dX6_isAmong_1 : decode cX6_isAmong 1 = .ok (.istore 4, 2) := by decide +kernel
theorem dX6_isAmong_3 : decode cX6_isAmong 3 = .ok (.iload 4, 2) := by decide +kernel
theorem dX6_isAmong_5 : decode cX6_isAmong 5 = .ok (.iload_n 2, 1) := by decide +kernel
theorem dX6_isAmong_6 : decode cX6_isAmong 6 = .ok (.if_icmp .ge 40, 3) := by decide +kernel
theorem dX6_isAmong_9 : decode cX6_isAmong 9 = .ok (.aload_n 1, 1) := by decide +kernel
theorem dX6_isAmong_10 : decode cX6_isAmong 10 = .ok (.iload 4, 2) := by decide +kernel
theorem dX6_isAmong_12 : decode cX6_isAmong 12 = .ok (.invokevirtual 180, 3) := by decide +kernel
theorem dX6_isAmong_15 : decode cX6_isAmong 15 = .ok (.ifCond .ne 25, 3) := by decide +kernel
theorem dX6_isAmong_18 : decode cX6_isAmong 18 = .ok (.aload_n 0, 1) := by decide +kernel
theorem dX6_isAmong_19 : decode cX6_isAmong 19 = .ok (.getfield 20, 3) := by decide +kernel
theorem dX6_isAmong_22 : decode cX6_isAmong 22 = .ok (.iload 4, 2) := by decide +kernel
theorem dX6_isAmong_24 : decode cX6_isAmong 24 = .ok (.aaload, 1) := by decide +kernel
theorem dX6_isAmong_25 : decode cX6_isAmong 25 = .ok (.iload_n 3, 1) := by decide +kernel
theorem dX6_isAmong_26 : decode cX6_isAmong 26 = .ok (.iaload, 1) := by decide +kernel
theorem dX6_isAmong_27 : decode cX6_isAmong 27 = .ok (.aload_n 0, 1) := by decide +kernel
theorem dX6_isAmong_28 : decode cX6_isAmong 28 = .ok (.getfield 20, 3) := by decide +kernel
theorem dX6_isAmong_31 : decode cX6_isAmong 31 = .ok (.iload_n 2, 1) := by decide +kernel
theorem dX6_isAmong_32 : decode cX6_isAmong 32 = .ok (.aaload, 1) := by decide +kernel
theorem dX6_isAmong_33 : decode cX6_isAmong 33 = .ok (.iload_n 3, 1) := by decide +kernel
theorem dX6_isAmong_34 : decode cX6_isAmong 34 = .ok (.iaload, 1) := by decide +kernel
theorem dX6_isAmong_35 : decode cX6_isAmong 35 = .ok (.if_icmp .ne 5, 3) := by decide +kernel
theorem dX6_isAmong_38 : decode cX6_isAmong 38 = .ok (.iconst 1, 1) := by decide +kernel
theorem dX6_isAmong_39 : decode cX6_isAmong 39 = .ok (.ireturn, 1) := by decide +kernel
theorem dX6_isAmong_40 : decode cX6_isAmong 40 = .ok (.iinc 4 1, 3) := by decide +kernel
theorem dX6_isAmong_43 : decode cX6_isAmong 43 = .ok (.goto (-40), 3) := by decide +kernel
theorem dX6_isAmong_46 : decode cX6_isAmong 46 = .ok (.iconst 0, 1) := by decide +kernel
theorem dX6_isAmong_47 : decode cX6_isAmong 47 = .ok (.ireturn, 1) := by decide +kernel
theorem dX7_init_0 : decode cX7_init 0 = .ok (.aload_n 0, 1) := by decide +kernel
theorem dX7_init_1 : decode cX7_init 1 = .ok (.invokespecial 3, 3) := by decide +kernel
theorem dX7_init_4 : decode cX7_init 4 = .ok (.aload_n 0, 1) := by decide +kernel
theorem dX7_init_5 : decode cX7_init 5 = .ok (.bipush 7, 2) := by decide +kernel
theorem dX7_init_7 : decode cX7_init 7 = .ok (.newarray .long, 2) := by decide +kernel
theorem dX7_init_9 : decode cX7_init 9 = .ok (.putfield 9, 3) := by decide +kernel
theorem dX7_init_12 : decode cX7_init 12 = .ok (.aload_n 0, 1) := by decide +kernel
theorem dX7_init_13 : decode cX7_init 13 = .ok (.bipush 7, 2) := by decide +kernel
theorem dX7_init_15 : decode cX7_init 15 = .ok (.newarray .int, 2) := by decide +kernel
theorem dX7_init_17 : decode cX7_init 17 = .ok (.putfield 15, 3) := by decide +kernel
theorem dX7_init_20 : decode cX7_init 20 = .ok (.aload_n 0, 1) := by decide +kernel
theorem dX7_init_21 : decode cX7_init 21 = .ok (.bipush 7, 2) := by decide +kernel
theorem dX7_init_23 : decode cX7_init 23 = .ok (.newarray .int, 2) := by decide +kernel
theorem dX7_init_25 : decode cX7_init 25 = .ok (.putfield 19, 3) := by decide +kernel
theorem dX7_init_28 : decode cX7_init 28 = .ok (.aload_n 0, 1) := by decide +kernel
theorem dX7_init_29 : decode cX7_init 29 = .ok (.bipush 7, 2) := by decide +kernel
theorem dX7_init_31 : decode cX7_init 31 = .ok (.newarray .int, 2) := by decide +kernel
theorem dX7_init_33 : decode cX7_init 33 = .ok (.putfield 22, 3) := by decide +kernel
theorem dX7_init_36 : decode cX7_init 36 = .ok (.aload_n 0, 1) := by decide +kernel
theorem dX7_init_37 : decode cX7_init 37 = .ok (.bipush 7, 2) := by decide +kernel
theorem dX7_init_39 : decode cX7_init 39 = .ok (.newarray .int, 2) := by decide +kernel
theorem dX7_init_41 : decode cX7_init 41 = .ok (.putfield 25, 3) := by decide +kernel
theorem dX7_init_44 : decode cX7_init 44 = .ok (.aload_n 0, 1) := by decide +kernel
theorem dX7_init_45 : decode cX7_init 45 = .ok (.bipush 7, 2) := by decide +kernel
theorem dX7_init_47 : decode cX7_init 47 = .ok (.newarray .int, 2) := by decide +kernel
theorem dX7_init_49 : decode cX7_init 49 = .ok (.putfield 28, 3) := by decide +kernel
theorem dX7_init_52 : decode cX7_init 52 = .ok (.aload_n 0, 1) := by decide +kernel
theorem dX7_init_53 : decode cX7_init 53 = .ok (.bipush 7, 2) := by decide +kernel
theorem dX7_init_55 : decode cX7_init 55 = .ok (.newarray .int, 2) := by decide +kernel
theorem dX7_init_57 : decode cX7_init 57 = .ok (.putfield 31, 3) := by decide +kernel
theorem dX7_init_60 : decode cX7_init 60 = .ok (.return_, 1) := by decide +kernel
theorem dX7_clear_0 : decode cX7_clear 0 = .ok (.aload_n 0, 1) := by decide +kernel
theorem dX7_clear_1 : decode cX7_clear 1 = .ok (.iconst 0, 1) := by decide +kernel
theorem dX7_clear_2 : decode cX7_clear 2 = .ok (.putfield 34, 3) := by decide +kernel
theorem dX7_clear_5 : decode cX7_clear 5 = .ok (.aload_n 0, 1) := by decide +kernel
theorem dX7_clear_6 : decode cX7_clear 6 = .ok (.iconst 0, 1) := by decide +kernel
theorem dX7_clear_7 : decode cX7_clear 7 = .ok (.putfield 38, 3) := by decide +kernel
theorem dX7_clear_10 : decode cX7_clear 10 = .ok (.return_, 1) := by decide +kernel
theorem dX7_add_0 : decode cX7_add 0 = .ok (.aload_n 0, 1) := by decide +kernel
theorem dX7_add_1 : decode cX7_add 1 = .ok (.getfield 34, 3) := by decide +kernel
theorem dX7_add_4 : decode cX7_add 4 = .ok (.bipush 7, 2) := by decide +kernel
theorem dX7_add_6 : decode cX7_add 6 = .ok (.if_icmp .lt 4, 3) := by decide +kernel
theorem dX7_add_9 : decode cX7_add 9 = .ok (.return_, 1) := by decide +kernel
theorem dX7_add_10 : decode cX7_add 10 = .ok (.aload_n 0, 1) := by decide +kernel
theorem dX7_add_11 : decode cX7_add 11 = .ok (.getfield 9, 3) := by decide +kernel
theorem dX7_add_14 : decode cX7_add 14 = .ok (.aload_n 0, 1) := by decide +kernel
theorem dX7_add_15 : decode cX7_add 15 = .ok (.getfield 34, 3) := by decide +kernel
theorem dX7_add_18 : decode cX7_add 18 = .ok (.lload_n 1, 1) := by decide +kernel
theorem dX7_add_19 : decode cX7_add 19 = .ok (.lastore, 1) := by decide +kernel
theorem dX7_add_20 : decode cX7_add 20 = .ok (.aload_n 0, 1) := by decide +kernel
theorem dX7_add_21 : decode cX7_add 21 = .ok (.getfield 15, 3) := by decide +kernel
theorem dX7_add_24 : decode cX7_add 24 = .ok (.aload_n 0, 1) := by decide +kernel
theorem dX7_add_25 : decode cX7_add 25 = .ok (.getfield 34, 3) := by decide +kernel
theorem dX7_add_28 : decode cX7_add 28 = .ok (.iload_n 3, 1) := by decide +kernel
theorem dX7_add_29 : decode cX7_add 29 = .ok (.iastore, 1) := by decide +kernel
theorem dX7_add_30 : decode cX7_add 30 = .ok (.aload_n 0, 1) := by decide +kernel
theorem dX7_add_31 : decode cX7_add 31 = .ok (.getfield 19, 3) := by decide +kernel
theorem dX7_add_34 : decode cX7_add 34 = .ok (.aload_n 0, 1) := by decide +kernel
theorem dX7_add_35 : decode cX7_add 35 = .ok (.getfield 34, 3) := by decide +kernel
theorem dX7_add_38 : decode cX7_add 38 = .ok (.iload 4, 2) := by decide +kernel
theorem dX7_add_40 : decode cX7_add 40 = .ok (.iastore, 1) := by decide +kernel
theorem dX7_add_41 : decode cX7_add 41 = .ok (.aload_n 0, 1) := by decide +kernel
theorem dX7_add_42 : decode cX7_add 42 = .ok (.getfield 22, 3) := by decide +kernel
theorem dX7_add_45 : decode cX7_add 45 = .ok (.aload_n 0, 1) := by decide +kernel
theorem dX7_add_46 : decode cX7_add 46 = .ok (.getfield 34, 3) := by decide +kernel
theorem dX7_add_49 : decode cX7_add 49 = .ok (.iload 5, 2) := by decide +kernel
theorem dX7_add_51 : decode cX7_add 51 = .ok (.iastore, 1) := by decide +kernel
theorem dX7_add_52 : decode cX7_add 52 = .ok (.aload_n 0, 1) := by decide +kernel
theorem dX7_add_53 : decode cX7_add 53 = .ok (.getfield 28, 3) := by decide +kernel
theorem dX7_add_56 : decode cX7_add 56 = .ok (.aload_n 0, 1) := by decide +kernel
theorem dX7_add_57 : decode cX7_add 57 = .ok (.getfield 34, 3) := by decide +kernel
theorem dX7_add_60 : decode cX7_add 60 = .ok (.iload 6, 2) := by decide +kernel
theorem dX7_add_62 : decode cX7_add 62 = .ok (.iastore, 1) := by decide +kernel
theorem dX7_add_63 : decode cX7_add 63 = .ok (.aload_n 0, 1) := by decide +kernel
theorem dX7_add_64 : decode cX7_add 64 = .ok (.getfield 25, 3) := by decide +kernel
theorem dX7_add_67 : decode cX7_add 67 = .ok (.aload_n 0, 1) := by decide +kernel
theorem dX7_add_68 : decode cX7_add 68 = .ok (.getfield 34, 3) := by decide +kernel
theorem dX7_add_71 : decode cX7_add 71 = .ok (.iconst 0, 1) := by decide +kernel
theorem dX7_add_72 : decode cX7_add 72 = .ok (.iastore, 1) := by decide +kernel
theorem dX7_add_73 : decode cX7_add 73 = .ok (.aload_n 0, 1) := by decide +kernel
theorem dX7_add_74 : decode cX7_add 74 = .ok (.getfield 31, 3) := by decide +kernel
theorem dX7_add_77 : decode cX7_add 77 = .ok (.aload_n 0, 1) := by decide +kernel
theorem dX7_add_78 : decode cX7_add 78 = .ok (.getfield 34, 3) := by decide +kernel
theorem dX7_add_81 : decode cX7_add 81 = .ok (.iconst 0, 1) := by decide +kernel
theorem dX7_add_82 : decode cX7_add 82 = .ok (.iastore, 1) := by decide +kernel
theorem dX7_add_83 : decode cX7_add 83 = .ok (.aload_n 0, 1) := by decide +kernel
theorem dX7_add_84 : decode cX7_add 84 = .ok (.dup, 1) := by decide +kernel
theorem dX7_add_85 : decode cX7_add 85 = .ok (.getfield 34, 3) := by decide +kernel
theorem dX7_add_88 : decode cX7_add 88 = .ok (.iconst 1, 1) := by decide +kernel
theorem dX7_add_89 : decode cX7_add 89 = .ok (.iadd, 1) := by decide +kernel
theorem dX7_add_90 : decode cX7_add 90 = .ok (.putfield 34, 3) := by decide +kernel
theorem dX7_add_93 : decode cX7_add 93 = .ok (.return_, 1) := by decide +kernel
theorem dX7_copyFrom_0 : decode cX7_copyFrom 0 = .ok (.aload_n 0, 1) := by decide +kernel
theorem dX7_copyFrom_1 : decode cX7_copyFrom 1 = .ok (.aload_n 1, 1) := by decide +kernel
theorem dX7_copyFrom_2 : decode cX7_copyFrom 2 = .ok (.getfield 34, 3) := by decide +kernel
theorem dX7_copyFrom_5 : decode cX7_copyFrom 5 = .ok (.putfield 34, 3) := by decide +kernel
theorem dX7_copyFrom_8 : decode cX7_copyFrom 8 = .ok (.aload_n 0, 1) := by decide +kernel
theorem dX7_copyFrom_9 : decode cX7_copyFrom 9 = .ok (.aload_n 1, 1) := by decide +kernel
theorem dX7_copyFrom_10 : decode cX7_copyFrom 10 = .ok (.getfield 38, 3) := by decide +kernel
theorem dX7_copyFrom_13 : decode cX7_copyFrom 13 = .ok (.putfield 38, 3) := by decide +kernel
theorem dX7_copyFrom_16 : decode cX7_copyFrom 16 = .ok (.aload_n 1, 1) := by decide +kernel
theorem dX7_copyFrom_17 : decode cX7_copyFrom 17 = .ok (.getfield 9, 3) := by decide +kernel
theorem dX7_copyFrom_20 : decode cX7_copyFrom 20 = .ok (.iconst 0, 1) := by decide +kernel
theorem dX7_copyFrom_21 : decode cX7_copyFrom 21 = .ok (.aload_n 0, 1) := by decide +kernel
theorem dX7_copyFrom_22 : decode cX7_copyFrom 22 = .ok (.getfield 9, 3) := by decide +kernel
theorem dX7_copyFrom_25 : decode cX7_copyFrom 25 = .ok (.iconst 0, 1) := by decide +kernel
theorem dX7_copyFrom_26 : decode cX7_copyFrom 26 = .ok (.bipush 7, 2) := by decide +kernel
theorem dX7_copyFrom_28 : decode cX7_copyFrom 28 = .ok (.invokestatic 41, 3) := by decide +kernel
theorem dX7_copyFrom_31 : decode cX7_copyFrom 31 = .ok (.aload_n 1, 1) := by decide +kernel
theorem dX7_copyFrom_32 : decode cX7_copyFrom 32 = .ok (.getfield 15, 3) := by decide +kernel
theorem dX7_copyFrom_35 : decode cX7_copyFrom 35 = .ok (.iconst 0, 1) := by decide +kernel
theorem dX7_copyFrom_36 : decode cX7_copyFrom 36 = .ok (.aload_n 0, 1) := by decide +kernel
theorem dX7_copyFrom_37 : decode cX7_copyFrom 37 = .ok (.getfield 15, 3) := by decide +kernel
theorem dX7_copyFrom_40 : decode cX7_copyFrom 40 = .ok (.iconst 0, 1) := by decide +kernel
theorem dX7_copyFrom_41 : decode cX7_copyFrom 41 = .ok (.bipush 7, 2) := by decide +kernel
theorem dX7_copyFrom_43 : decode cX7_copyFrom 43 = .ok (.invokestatic 41, 3) := by decide +kernel
theorem dX7_copyFrom_46 : decode cX7_copyFrom 46 = .ok (.aload_n 1, 1) := by decide +kernel
theorem dX7_copyFrom_47 : decode cX7_copyFrom 47 = .ok (.getfield 19, 3) := by decide +kernel
theorem dX7_copyFrom_50 : decode cX7_copyFrom 50 = .ok (.iconst 0, 1) := by decide +kernel
theorem dX7_copyFrom_51 : decode cX7_copyFrom 51 = .ok (.aload_n 0, 1) := by decide +kernel
theorem dX7_copyFrom_52 : decode cX7_copyFrom 52 = .ok (.getfield 19, 3) := by decide +kernel
theorem dX7_copyFrom_55 : decode cX7_copyFrom 55 = .ok (.iconst 0, 1) := by decide +kernel
theorem dX7_copyFrom_56 : decode cX7_copyFrom 56 = .ok (.bipush 7, 2) := by decide +kernel
theorem dX7_copyFrom_58 : decode cX7_copyFrom 58 = .ok (.invokestatic 41, 3) := by decide +kernel
theorem dX7_copyFrom_61 : decode cX7_copyFrom 61 = .ok (.aload_n 1, 1) := by decide +kernel
theorem dX7_copyFrom_62 : decode cX7_copyFrom 62 = .ok (.getfield 22, 3) := by decide +kernel
theorem dX7_copyFrom_65 : decode cX7_copyFrom 65 = .ok (.iconst 0, 1) := by decide +kernel
theorem dX7_copyFrom_66 : decode cX7_copyFrom 66 = .ok (.aload_n 0, 1) := by decide +kernel
theorem dX7_copyFrom_67 : decode cX7_copyFrom 67 = .ok (.getfield 22, 3) := by decide +kernel
theorem dX7_copyFrom_70 : decode cX7_copyFrom 70 = .ok (.iconst 0, 1) := by decide +kernel
theorem dX7_copyFrom_71 : decode cX7_copyFrom 71 = .ok (.bipush 7, 2) := by decide +kernel
theorem dX7_copyFrom_73 : decode cX7_copyFrom 73 = .ok (.invokestatic 41, 3) := by decide +kernel
theorem dX7_copyFrom_76 : decode cX7_copyFrom 76 = .ok (.aload_n 1, 1) := by decide +kernel
theorem dX7_copyFrom_77 : decode cX7_copyFrom 77 = .ok (.getfield 25, 3) := by decide +kernel
theorem dX7_copyFrom_80 : decode cX7_copyFrom 80 = .ok (.iconst 0, 1) := by decide +kernel
theorem dX7_copyFrom_81 : decode cX7_copyFrom 81 = .ok (.aload_n 0, 1) := by decide +kernel
theorem dX7_copyFrom_82 : decode cX7_copyFrom 82 = .ok (.getfield 25, 3) := by decide +kernel
theorem dX7_copyFrom_85 : decode cX7_copyFrom 85 = .ok (.iconst 0, 1) := by decide +kernel
theorem dX7_copyFrom_86 : decode cX7_copyFrom 86 = .ok (.bipush 7, 2) := by decide +kernel
theorem dX7_copyFrom_88 : decode cX7_copyFrom 88 = .ok (.invokestatic 41, 3) := by decide +kernel
theorem dX7_copyFrom_91 : decode cX7_copyFrom 91 = .ok (.aload_n 1, 1) := by decide +kernel
theorem dX7_copyFrom_92 : decode cX7_copyFrom 92 = .ok (.getfield 28, 3) := by decide +kernel
theorem dX7_copyFrom_95 : decode cX7_copyFrom 95 = .ok (.iconst 0, 1) := by decide +kernel
theorem dX7_copyFrom_96 : decode cX7_copyFrom 96 = .ok (.aload_n 0, 1) := by decide +kernel
theorem dX7_copyFrom_97 : decode cX7_copyFrom 97 = .ok (.getfield 28, 3) := by decide +kernel
theorem dX7_copyFrom_100 : decode cX7_copyFrom 100 = .ok (.iconst 0, 1) := by decide +kernel
theorem dX7_copyFrom_101 : decode cX7_copyFrom 101 = .ok (.bipush 7, 2) := by decide +kernel
theorem dX7_copyFrom_103 : decode cX7_copyFrom 103 = .ok (.invokestatic 41, 3) := by decide +kernel
theorem dX7_copyFrom_106 : decode cX7_copyFrom 106 = .ok (.aload_n 1, 1) := by decide +kernel
theorem dX7_copyFrom_107 : decode cX7_copyFrom 107 = .ok (.getfield 31, 3) := by decide +kernel
theorem dX7_copyFrom_110 : decode cX7_copyFrom 110 = .ok (.iconst 0, 1) := by decide +kernel
theorem dX7_copyFrom_111 : decode cX7_copyFrom 111 = .ok (.aload_n 0, 1) := by decide +kernel
theorem dX7_copyFrom_112 : decode cX7_copyFrom 112 = .ok (.getfield 31, 3) := by decide +kernel
theorem dX7_copyFrom_115 : decode cX7_copyFrom 115 = .ok (.iconst 0, 1) := by decide +kernel
theorem dX7_copyFrom_116 : decode cX7_copyFrom 116 = .ok (.bipush 7, 2) := by decide +kernel
theorem dX7_copyFrom_118 : decode cX7_copyFrom 118 = .ok (.invokestatic 41, 3) := by decide +kernel
theorem dX7_copyFrom_121 : decode cX7_copyFrom 121 = .ok (.return_, 1) := by decide +kernel
theorem dX7_indexOf_0 : decode cX7_indexOf 0 = .ok (.aload_n 0, 1) := by decide +kernel
theorem dX7_indexOf_1 : decode cX7_indexOf 1 = .ok (.getfield 9, 3) := by decide +kernel
theorem dX7_indexOf_4 : decode cX7_indexOf 4 = .ok (.aload_n 0, 1) := by decide +kernel
theorem dX7_indexOf_5 : decode cX7_indexOf 5 = .ok (.getfield 34, 3) := by decide +kernel
theorem dX7_indexOf_8 : decode cX7_indexOf 8 = .ok (.lload_n 1, 1) := by decide +kernel
theorem dX7_indexOf_9 : decode cX7_indexOf 9 = .ok (.invokestatic 47, 3) := by decide +kernel
theorem dX7_indexOf_12 : decode cX7_indexOf 12 = .ok (.ireturn, 1) := by decide +kernel
theorem dX7_depth_0 : decode cX7_depth 0 = .ok (.iload_n 1, 1) := by decide +kernel
theorem dX7_depth_1 : decode cX7_depth 1 = .ok (.ifCond .lt 19, 3) := by decide +kernel
theorem dX7_depth_4 : decode cX7_depth 4 = .ok (.iload_n 1, 1) := by decide +kernel
theorem dX7_depth_5 : decode cX7_depth 5 = .ok (.bipush 7, 2) := by decide +kernel
theorem dX7_depth_7 : decode cX7_depth 7 = .ok (.if_icmp .ge 13, 3) := by decide +kernel
theorem dX7_depth_10 : decode cX7_depth 10 = .ok (.aload_n 0, 1) := by decide +kernel
theorem dX7_depth_11 : decode cX7_depth 11 = .ok (.getfield 19, 3) := by decide +kernel
theorem dX7_depth_14 : decode cX7_depth 14 = .ok (.iload_n 1, 1) := by decide +kernel
theorem dX7_depth_15 : decode cX7_depth 15 = .ok (.iaload, 1) := by decide +kernel
theorem dX7_depth_16 : decode cX7_depth 16 = .ok (.iconst 1, 1) := by decide +kernel
theorem dX7_depth_17 : decode cX7_depth 17 = .ok (.if_icmp .ge 5, 3) := by decide +kernel
theorem dX7_depth_20 : decode cX7_depth 20 = .ok (.iconst 0, 1) := by decide +kernel
theorem dX7_depth_21 : decode cX7_depth 21 = .ok (.ireturn, 1) := by decide +kernel
theorem dX7_depth_22 : decode cX7_depth 22 = .ok (.aload_n 0, 1) := by decide +kernel
theorem dX7_depth_23 : decode cX7_depth 23 = .ok (.getfield 28, 3) := by decide +kernel
theorem dX7_depth_26 : decode cX7_depth 26 = .ok (.iload_n 1, 1) := by decide +kernel
theorem dX7_depth_27 : decode cX7_depth 27 = .ok (.iaload, 1) := by decide +kernel
theorem dX7_depth_28 : decode cX7_depth 28 = .ok (.aload_n 0, 1) := by decide +kernel
theorem dX7_depth_29 : decode cX7_depth 29 = .ok (.getfield 19, 3) := by decide +kernel
theorem dX7_depth_32 : decode cX7_depth 32 = .ok (.iload_n 1, 1) := by decide +kernel
theorem dX7_depth_33 : decode cX7_depth 33 = .ok (.iaload, 1) := by decide +kernel
theorem dX7_depth_34 : decode cX7_depth 34 = .ok (.idiv, 1) := by decide +kernel
theorem dX7_depth_35 : decode cX7_depth 35 = .ok (.ireturn, 1) := by decide +kernel
theorem dX7_isDrowned_0 : decode cX7_isDrowned 0 = .ok (.aload_n 0, 1) := by decide +kernel
theorem dX7_isDrowned_1 : decode cX7_isDrowned 1 = .ok (.getfield 38, 3) := by decide +kernel
theorem dX7_isDrowned_4 : decode cX7_isDrowned 4 = .ok (.iload_n 1, 1) := by decide +kernel
theorem dX7_isDrowned_5 : decode cX7_isDrowned 5 = .ok (.ishr, 1) := by decide +kernel
theorem dX7_isDrowned_6 : decode cX7_isDrowned 6 = .ok (.iconst 1, 1) := by decide +kernel
theorem dX7_isDrowned_7 : decode cX7_isDrowned 7 = .ok (.iand, 1) := by decide +kernel
theorem dX7_isDrowned_8 : decode cX7_isDrowned 8 = .ok (.iconst 1, 1) := by decide +kernel
theorem dX7_isDrowned_9 : decode cX7_isDrowned 9 = .ok (.if_icmp .ne 7, 3) := by decide +kernel
theorem dX7_isDrowned_12 : decode cX7_isDrowned 12 = .ok (.iconst 1, 1) := by decide +kernel
theorem dX7_isDrowned_13 : decode cX7_isDrowned 13 = .ok (.goto 4, 3) := by decide +kernel
theorem dX7_isDrowned_16 : decode cX7_isDrowned 16 = .ok (.iconst 0, 1) := by decide +kernel
theorem dX7_isDrowned_17 : decode cX7_isDrowned 17 = .ok (.ireturn, 1) := by decide +kernel
theorem dX7_allWater_0 : decode cX7_allWater 0 = .ok (.iconst 0, 1) := by decide +kernel
theorem dX7_allWater_1 : decode cX7_allWater 1 = .ok (.istore_n 1, 1) := by decide +kernel
theorem dX7_allWater_2 : decode cX7_allWater 2 = .ok (.iconst 0, 1) := by decide +kernel
theorem dX7_allWater_3 : decode cX7_allWater 3 = .ok (.istore_n 2, 1) := by decide +kernel
theorem dX7_allWater_4 : decode cX7_allWater 4 = .ok (.iload_n 2, 1) := by decide +kernel
theorem dX7_allWater_5 : decode cX7_allWater 5 = .ok (.aload_n 0, 1) := by decide +kernel
theorem dX7_allWater_6 : decode cX7_allWater 6 = .ok (.getfield 34, 3) := by decide +kernel
theorem dX7_allWater_9 : decode cX7_allWater 9 = .ok (.if_icmp .ge 18, 3) := by decide +kernel
theorem dX7_allWater_12 : decode cX7_allWater 12 = .ok (.iload_n 1, 1) := by decide +kernel
theorem dX7_allWater_13 : decode cX7_allWater 13 = .ok (.aload_n 0, 1) := by decide +kernel
theorem dX7_allWater_14 : decode cX7_allWater 14 = .ok (.getfield 28, 3) := by decide +kernel
theorem dX7_allWater_17 : decode cX7_allWater 17 = .ok (.iload_n 2, 1) := by decide +kernel
theorem dX7_allWater_18 : decode cX7_allWater 18 = .ok (.iaload, 1) := by decide +kernel
theorem dX7_allWater_19 : decode cX7_allWater 19 = .ok (.iadd, 1) := by decide +kernel
theorem dX7_allWater_20 : decode cX7_allWater 20 = .ok (.istore_n 1, 1) := by decide +kernel
theorem dX7_allWater_21 : decode cX7_allWater 21 = .ok (.iinc 2 1, 3) := by decide +kernel
theorem dX7_allWater_24 : decode cX7_allWater 24 = .ok (.goto (-20), 3) := by decide +kernel
theorem dX7_allWater_27 : decode cX7_allWater 27 = .ok (.iload_n 1, 1) := by decide +kernel
theorem dX7_allWater_28 : decode cX7_allWater 28 = .ok (.ireturn, 1) := by decide +kernel
theorem dX7_wetOnes_0 : decode cX7_wetOnes 0 = .ok (.iconst 0, 1) := by decide +kernel
theorem dX7_wetOnes_1 : decode cX7_wetOnes 1 = .ok (.istore_n 1, 1) := by decide +kernel
theorem dX7_wetOnes_2 : decode cX7_wetOnes 2 = .ok (.iconst 0, 1) := by decide +kernel
theorem dX7_wetOnes_3 : decode cX7_wetOnes 3 = .ok (.istore_n 2, 1) := by decide +kernel
theorem dX7_wetOnes_4 : decode cX7_wetOnes 4 = .ok (.iload_n 2, 1) := by decide +kernel
theorem dX7_wetOnes_5 : decode cX7_wetOnes 5 = .ok (.aload_n 0, 1) := by decide +kernel
theorem dX7_wetOnes_6 : decode cX7_wetOnes 6 = .ok (.getfield 34, 3) := by decide +kernel
theorem dX7_wetOnes_9 : decode cX7_wetOnes 9 = .ok (.if_icmp .ge 23, 3) := by decide +kernel
theorem dX7_wetOnes_12 : decode cX7_wetOnes 12 = .ok (.aload_n 0, 1) := by decide +kernel
theorem dX7_wetOnes_13 : decode cX7_wetOnes 13 = .ok (.iload_n 2, 1) := by decide +kernel
theorem dX7_wetOnes_14 : decode cX7_wetOnes 14 = .ok (.invokevirtual 51, 3) := by decide +kernel
theorem dX7_wetOnes_17 : decode cX7_wetOnes 17 = .ok (.ifCond .le 9, 3) := by decide +kernel
theorem dX7_wetOnes_20 : decode cX7_wetOnes 20 = .ok (.iload_n 1, 1) := by decide +kernel
theorem dX7_wetOnes_21 : decode cX7_wetOnes 21 = .ok (.iconst 1, 1) := by decide +kernel
theorem dX7_wetOnes_22 : decode cX7_wetOnes 22 = .ok (.iload_n 2, 1) := by decide +kernel
theorem dX7_wetOnes_23 : decode cX7_wetOnes 23 = .ok (.ishl, 1) := by decide +kernel
theorem dX7_wetOnes_24 : decode cX7_wetOnes 24 = .ok (.ior, 1) := by decide +kernel
theorem dX7_wetOnes_25 : decode cX7_wetOnes 25 = .ok (.istore_n 1, 1) := by decide +kernel
theorem dX7_wetOnes_26 : decode cX7_wetOnes 26 = .ok (.iinc 2 1, 3) := by decide +kernel
theorem dX7_wetOnes_29 : decode cX7_wetOnes 29 = .ok (.goto (-25), 3) := by decide +kernel
theorem dX7_wetOnes_32 : decode cX7_wetOnes 32 = .ok (.iload_n 1, 1) := by decide +kernel
theorem dX7_wetOnes_33 : decode cX7_wetOnes 33 = .ok (.ireturn, 1) := by decide +kernel
theorem dX7_wipeMarks_0 : decode cX7_wipeMarks 0 = .ok (.iconst 0, 1) := by decide +kernel
theorem dX7_wipeMarks_1 : decode cX7_wipeMarks 1 = .ok (.istore_n 1, 1) := by decide +kernel
theorem dX7_wipeMarks_2 : decode cX7_wipeMarks 2 = .ok (.iconst 0, 1) := by decide +kernel
theorem dX7_wipeMarks_3 : decode cX7_wipeMarks 3 = .ok (.istore_n 2, 1) := by decide +kernel
theorem dX7_wipeMarks_4 : decode cX7_wipeMarks 4 = .ok (.iload_n 2, 1) := by decide +kernel
theorem dX7_wipeMarks_5 : decode cX7_wipeMarks 5 = .ok (.aload_n 0, 1) := by decide +kernel
theorem dX7_wipeMarks_6 : decode cX7_wipeMarks 6 = .ok (.getfield 34, 3) := by decide +kernel
theorem dX7_wipeMarks_9 : decode cX7_wipeMarks 9 = .ok (.if_icmp .ge 28, 3) := by decide +kernel
theorem dX7_wipeMarks_12 : decode cX7_wipeMarks 12 = .ok (.aload_n 0, 1) := by decide +kernel
theorem dX7_wipeMarks_13 : decode cX7_wipeMarks 13 = .ok (.getfield 31, 3) := by decide +kernel
theorem dX7_wipeMarks_16 : decode cX7_wipeMarks 16 = .ok (.iload_n 2, 1) := by decide +kernel
theorem dX7_wipeMarks_17 : decode cX7_wipeMarks 17 = .ok (.iaload, 1) := by decide +kernel
theorem dX7_wipeMarks_18 : decode cX7_wipeMarks 18 = .ok (.ifCond .le 6, 3) := by decide +kernel
theorem dX7_wipeMarks_21 : decode cX7_wipeMarks 21 = .ok (.iinc 1 1, 3) := by decide +kernel
theorem dX7_wipeMarks_24 : decode cX7_wipeMarks 24 = .ok (.aload_n 0, 1) := by decide +kernel
theorem dX7_wipeMarks_25 : decode cX7_wipeMarks 25 = .ok (.getfield 31, 3) := by decide +kernel
theorem dX7_wipeMarks_28 : decode cX7_wipeMarks 28 = .ok (.iload_n 2, 1) := by decide +kernel
theorem dX7_wipeMarks_29 : decode cX7_wipeMarks 29 = .ok (.iconst 0, 1) := by decide +kernel
theorem dX7_wipeMarks_30 : decode cX7_wipeMarks 30 = .ok (.iastore, 1) := by decide +kernel
theorem dX7_wipeMarks_31 : decode cX7_wipeMarks 31 = .ok (.iinc 2 1, 3) := by decide +kernel
theorem dX7_wipeMarks_34 : decode cX7_wipeMarks 34 = .ok (.goto (-30), 3) := by decide +kernel
theorem dX7_wipeMarks_37 : decode cX7_wipeMarks 37 = .ok (.iload_n 1, 1) := by decide +kernel
theorem dX7_wipeMarks_38 : decode cX7_wipeMarks 38 = .ok (.ireturn, 1) := by decide +kernel
theorem dX7_pumpOut_0 : decode cX7_pumpOut 0 = .ok (.iconst 0, 1) := by decide +kernel
theorem dX7_pumpOut_1 : decode cX7_pumpOut 1 = .ok (.istore_n 1, 1) := by decide +kernel
theorem dX7_pumpOut_2 : decode cX7_pumpOut 2 = .ok (.iload_n 1, 1) := by decide +kernel
theorem dX7_pumpOut_3 : decode cX7_pumpOut 3 = .ok (.aload_n 0, 1) := by decide +kernel
theorem dX7_pumpOut_4 : decode cX7_pumpOut 4 = .ok (.getfield 34, 3) := by decide +kernel
theorem dX7_pumpOut_7 : decode cX7_pumpOut 7 = .ok (.if_icmp .ge 33, 3) := by decide +kernel
theorem dX7_pumpOut_10 : decode cX7_pumpOut 10 = .ok (.aload_n 0, 1) := by decide +kernel
theorem dX7_pumpOut_11 : decode cX7_pumpOut 11 = .ok (.getfield 28, 3) := by decide +kernel
theorem dX7_pumpOut_14 : decode cX7_pumpOut 14 = .ok (.iload_n 1, 1) := by decide +kernel
theorem dX7_pumpOut_15 : decode cX7_pumpOut 15 = .ok (.dup2, 1) := by decide +kernel
theorem dX7_pumpOut_16 : decode cX7_pumpOut 16 = .ok (.iaload, 1) := by decide +kernel
theorem dX7_pumpOut_17 : decode cX7_pumpOut 17 = .ok (.aload_n 0, 1) := by decide +kernel
theorem dX7_pumpOut_18 : decode cX7_pumpOut 18 = .ok (.getfield 25, 3) := by decide +kernel
theorem dX7_pumpOut_21 : decode cX7_pumpOut 21 = .ok (.iload_n 1, 1) := by decide +kernel
theorem dX7_pumpOut_22 : decode cX7_pumpOut 22 = .ok (.iaload, 1) := by decide +kernel
theorem dX7_pumpOut_23 : decode cX7_pumpOut 23 = .ok (.aload_n 0, 1) := by decide +kernel
theorem dX7_pumpOut_24 : decode cX7_pumpOut 24 = .ok (.getfield 28, 3) := by decide +kernel
theorem dX7_pumpOut_27 : decode cX7_pumpOut 27 = .ok (.iload_n 1, 1) := by decide +kernel
theorem dX7_pumpOut_28 : decode cX7_pumpOut 28 = .ok (.iaload, 1) := by decide +kernel
theorem dX7_pumpOut_29 : decode cX7_pumpOut 29 = .ok (.invokestatic 55, 3) := by decide +kernel
theorem dX7_pumpOut_32 : decode cX7_pumpOut 32 = .ok (.isub, 1) := by decide +kernel
theorem dX7_pumpOut_33 : decode cX7_pumpOut 33 = .ok (.iastore, 1) := by decide +kernel
theorem dX7_pumpOut_34 : decode cX7_pumpOut 34 = .ok (.iinc 1 1, 3) := by decide +kernel
theorem dX7_pumpOut_37 : decode cX7_pumpOut 37 = .ok (.goto (-35), 3) := by decide +kernel
theorem dX7_pumpOut_40 : decode cX7_pumpOut 40 = .ok (.return_, 1) := by decide +kernel
theorem dX7_lookAtDepths_0 : decode cX7_lookAtDepths 0 = .ok (.iconst 0, 1) := by decide +kernel
theorem dX7_lookAtDepths_1 : decode cX7_lookAtDepths 1 = .ok (.istore_n 1, 1) := by decide +kernel
theorem dX7_lookAtDepths_2 : decode cX7_lookAtDepths 2 = .ok (.iload_n 1, 1) := by decide +kernel
theorem dX7_lookAtDepths_3 : decode cX7_lookAtDepths 3 = .ok (.aload_n 0, 1) := by decide +kernel
theorem dX7_lookAtDepths_4 : decode cX7_lookAtDepths 4 = .ok (.getfield 34, 3) := by decide +kernel
theorem dX7_lookAtDepths_7 : decode cX7_lookAtDepths 7 = .ok (.if_icmp .ge 54, 3) := by decide +kernel
theorem dX7_lookAtDepths_10 : decode cX7_lookAtDepths 10 = .ok (.aload_n 0, 1) := by decide +kernel
theorem dX7_lookAtDepths_11 : decode cX7_lookAtDepths 11 = .ok (.iload_n 1, 1) := by decide +kernel
theorem dX7_lookAtDepths_12 : decode cX7_lookAtDepths 12 = .ok (.invokevirtual 51, 3) := by decide +kernel
theorem dX7_lookAtDepths_15 : decode cX7_lookAtDepths 15 = .ok (.istore_n 2, 1) := by decide +kernel
theorem dX7_lookAtDepths_16 : decode cX7_lookAtDepths 16 = .ok (.iload_n 2, 1) := by decide +kernel
theorem dX7_lookAtDepths_17 : decode cX7_lookAtDepths 17 = .ok (.aload_n 0, 1) := by decide +kernel
theorem dX7_lookAtDepths_18 : decode cX7_lookAtDepths 18 = .ok (.getfield 22, 3) := by decide +kernel
theorem dX7_lookAtDepths_21 : decode cX7_lookAtDepths 21 = .ok (.iload_n 1, 1) := by decide +kernel
theorem dX7_lookAtDepths_22 : decode cX7_lookAtDepths 22 = .ok (.iaload, 1) := by decide +kernel
theorem dX7_lookAtDepths_23 : decode cX7_lookAtDepths 23 = .ok (.if_icmp .le 15, 3) := by decide +kernel
theorem dX7_lookAtDepths_26 : decode cX7_lookAtDepths 26 = .ok (.aload_n 0, 1) := by decide +kernel
theorem dX7_lookAtDepths_27 : decode cX7_lookAtDepths 27 = .ok (.dup, 1) := by decide +kernel
theorem dX7_lookAtDepths_28 : decode cX7_lookAtDepths 28 = .ok (.getfield 38, 3) := by decide +kernel
theorem dX7_lookAtDepths_31 : decode cX7_lookAtDepths 31 = .ok (.iconst 1, 1) := by decide +kernel
theorem dX7_lookAtDepths_32 : decode cX7_lookAtDepths 32 = .ok (.iload_n 1, 1) := by decide +kernel
theorem dX7_lookAtDepths_33 : decode cX7_lookAtDepths 33 = .ok (.ishl, 1) := by decide +kernel
theorem dX7_lookAtDepths_34 : decode cX7_lookAtDepths 34 = .ok (.ior, 1) := by decide +kernel
theorem dX7_lookAtDepths_35 : decode cX7_lookAtDepths 35 = .ok (.putfield 38, 3) := by decide +kernel
theorem dX7_lookAtDepths_38 : decode cX7_lookAtDepths 38 = .ok (.iload_n 2, 1) := by decide +kernel
theorem dX7_lookAtDepths_39 : decode cX7_lookAtDepths 39 = .ok (.aload_n 0, 1) := by decide +kernel
theorem dX7_lookAtDepths_40 : decode cX7_lookAtDepths 40 = .ok (.getfield 31, 3) := by decide +kernel
theorem dX7_lookAtDepths_43 : decode cX7_lookAtDepths 43 = .ok (.iload_n 1, 1) := by decide +kernel
theorem dX7_lookAtDepths_44 : decode cX7_lookAtDepths 44 = .ok (.iaload, 1) := by decide +kernel
theorem dX7_lookAtDepths_45 : decode cX7_lookAtDepths 45 = .ok (.if_icmp .le 10, 3) := by decide +kernel
theorem dX7_lookAtDepths_48 : decode cX7_lookAtDepths 48 = .ok (.aload_n 0, 1) := by decide +kernel
theorem dX7_lookAtDepths_49 : decode cX7_lookAtDepths 49 = .ok (.getfield 31, 3) := by decide +kernel
theorem dX7_lookAtDepths_52 : decode cX7_lookAtDepths 52 = .ok (.iload_n 1, 1) := by decide +kernel
theorem dX7_lookAtDepths_53 : decode cX7_lookAtDepths 53 = .ok (.iload_n 2, 1) := by decide +kernel
theorem dX7_lookAtDepths_54 : decode cX7_lookAtDepths 54 = .ok (.iastore, 1) := by decide +kernel
theorem dX7_lookAtDepths_55 : decode cX7_lookAtDepths 55 = .ok (.iinc 1 1, 3) := by decide +kernel
theorem dX7_lookAtDepths_58 : decode cX7_lookAtDepths 58 = .ok (.goto (-56), 3) := by decide +kernel
theorem dX7_lookAtDepths_61 : decode cX7_lookAtDepths 61 = .ok (.return_, 1) := by decide +kernel
theorem dX8_init_0 : decode cX8_init 0 = .ok (.aload_n 0, 1) := by decide +kernel
theorem dX8_init_1 : decode cX8_init 1 = .ok (.invokespecial 3, 3) := by decide +kernel
theorem dX8_init_4 : decode cX8_init 4 = .ok (.aload_n 0, 1) := by decide +kernel
theorem dX8_init_5 : decode cX8_init 5 = .ok (.bipush 28, 2) := by decide +kernel
theorem dX8_init_7 : decode cX8_init 7 = .ok (.newarray .long, 2) := by decide +kernel
theorem dX8_init_9 : decode cX8_init 9 = .ok (.putfield 11, 3) := by decide +kernel
theorem dX8_init_12 : decode cX8_init 12 = .ok (.aload_n 0, 1) := by decide +kernel
theorem dX8_init_13 : decode cX8_init 13 = .ok (.iconst 0, 1) := by decide +kernel
theorem dX8_init_14 : decode cX8_init 14 = .ok (.iload_n 1, 1) := by decide +kernel
theorem dX8_init_15 : decode cX8_init 15 = .ok (.invokestatic 15, 3) := by decide +kernel
theorem dX8_init_18 : decode cX8_init 18 = .ok (.iconst 1, 1) := by decide +kernel
theorem dX8_init_19 : decode cX8_init 19 = .ok (.iadd, 1) := by decide +kernel
theorem dX8_init_20 : decode cX8_init 20 = .ok (.putfield 21, 3) := by decide +kernel
theorem dX8_init_23 : decode cX8_init 23 = .ok (.aload_n 0, 1) := by decide +kernel
theorem dX8_init_24 : decode cX8_init 24 = .ok (.aload_n 0, 1) := by decide +kernel
theorem dX8_init_25 : decode cX8_init 25 = .ok (.getfield 21, 3) := by decide +kernel
theorem dX8_init_28 : decode cX8_init 28 = .ok (.newarray .int, 2) := by decide +kernel
theorem dX8_init_30 : decode cX8_init 30 = .ok (.putfield 25, 3) := by decide +kernel
theorem dX8_init_33 : decode cX8_init 33 = .ok (.aload_n 0, 1) := by decide +kernel
theorem dX8_init_34 : decode cX8_init 34 = .ok (.aload_n 0, 1) := by decide +kernel
theorem dX8_init_35 : decode cX8_init 35 = .ok (.getfield 21, 3) := by decide +kernel
theorem dX8_init_38 : decode cX8_init 38 = .ok (.newarray .int, 2) := by decide +kernel
theorem dX8_init_40 : decode cX8_init 40 = .ok (.putfield 29, 3) := by decide +kernel
theorem dX8_init_43 : decode cX8_init 43 = .ok (.aload_n 0, 1) := by decide +kernel
theorem dX8_init_44 : decode cX8_init 44 = .ok (.aload_n 0, 1) := by decide +kernel
theorem dX8_init_45 : decode cX8_init 45 = .ok (.getfield 21, 3) := by decide +kernel
theorem dX8_init_48 : decode cX8_init 48 = .ok (.newarray .long, 2) := by decide +kernel
theorem dX8_init_50 : decode cX8_init 50 = .ok (.putfield 32, 3) := by decide +kernel
theorem dX8_init_53 : decode cX8_init 53 = .ok (.aload_n 0, 1) := by decide +kernel
theorem dX8_init_54 : decode cX8_init 54 = .ok (.aload_n 0, 1) := by decide +kernel
theorem dX8_init_55 : decode cX8_init 55 = .ok (.getfield 21, 3) := by decide +kernel
theorem dX8_init_58 : decode cX8_init 58 = .ok (.newarray .int, 2) := by decide +kernel
theorem dX8_init_60 : decode cX8_init 60 = .ok (.putfield 35, 3) := by decide +kernel
theorem dX8_init_63 : decode cX8_init 63 = .ok (.aload_n 0, 1) := by decide +kernel
theorem dX8_init_64 : decode cX8_init 64 = .ok (.ldc 38, 2) := by decide +kernel
theorem dX8_init_66 : decode cX8_init 66 = .ok (.aload_n 0, 1) := by decide +kernel
theorem dX8_init_67 : decode cX8_init 67 = .ok (.ldc 40, 2) := by decide +kernel
theorem dX8_init_69 : decode cX8_init 69 = .ok (.iconst 0, 1) := by decide +kernel
theorem dX8_init_70 : decode cX8_init 70 = .ok (.invokevirtual 42, 3) := by decide +kernel
theorem dX8_init_73 : decode cX8_init 73 = .ok (.invokevirtual 42, 3) := by decide +kernel
theorem dX8_init_76 : decode cX8_init 76 = .ok (.pop, 1) := by decide +kernel
theorem dX8_init_77 : decode cX8_init 77 = .ok (.return_, 1) := by decide +kernel
theorem dX8_reserve_0 : decode cX8_reserve 0 = .ok (.iload_n 2, 1) := by decide +kernel
theorem dX8_reserve_1 : decode cX8_reserve 1 = .ok (.istore_n 3, 1) := by decide +kernel
theorem dX8_reserve_2 : decode cX8_reserve 2 = .ok (.lconst 0, 1) := by decide +kernel
theorem dX8_reserve_3 : decode cX8_reserve 3 = .ok (.lstore 4, 2) := by decide +kernel
theorem dX8_reserve_5 : decode cX8_reserve 5 = .ok (.iconst 0, 1) := by decide +kernel
theorem dX8_reserve_6 : decode cX8_reserve 6 = .ok (.istore 6, 2) := by decide +kernel
theorem dX8_reserve_8 : decode cX8_reserve 8 = .ok (.iload 6, 2) := by decide +kernel
theorem dX8_reserve_10 : decode cX8_reserve 10 = .ok (.aload_n 1, 1) := by decide +kernel
theorem dX8_reserve_11 : decode cX8_reserve 11 = .ok (.invokevirtual 46, 3) := by decide +kernel
theorem dX8_reserve_14 : decode cX8_reserve 14 = .ok (.if_icmp .ge 56, 3) := by decide +kernel
theorem dX8_reserve_17 : decode cX8_reserve 17 = .ok (.iload_n 3, 1) := by decide +kernel
theorem dX8_reserve_18 : decode cX8_reserve 18 = .ok (.bipush 28, 2) := by decide +kernel
theorem dX8_reserve_20 : decode cX8_reserve 20 = .ok (.if_icmp .ge 50, 3) := by decide +kernel
theorem dX8_reserve_23 : decode cX8_reserve 23 = .ok (.aload_n 1, 1) := by decide +kernel
theorem dX8_reserve_24 : decode cX8_reserve 24 = .ok (.iload 6, 2) := by decide +kernel
theorem dX8_reserve_26 : decode cX8_reserve 26 = .ok (.invokevirtual 52, 3) := by decide +kernel
theorem dX8_reserve_29 : decode cX8_reserve 29 = .ok (.istore 7, 2) := by decide +kernel
theorem dX8_reserve_31 : decode cX8_reserve 31 = .ok (.iload 7, 2) := by decide +kernel
theorem dX8_reserve_33 : decode cX8_reserve 33 = .ok (.bipush 32, 2) := by decide +kernel
theorem dX8_reserve_35 : decode cX8_reserve 35 = .ok (.if_icmp .ne 20, 3) := by decide +kernel
theorem dX8_reserve_38 : decode cX8_reserve 38 = .ok (.aload_n 0, 1) := by decide +kernel
theorem dX8_reserve_39 : decode cX8_reserve 39 = .ok (.getfield 11, 3) := by decide +kernel
theorem dX8_reserve_42 : decode cX8_reserve 42 = .ok (.iload_n 3, 1) := by decide +kernel
theorem dX8_reserve_43 : decode cX8_reserve 43 = .ok (.lload 4, 2) := by decide +kernel
theorem dX8_reserve_45 : decode cX8_reserve 45 = .ok (.lastore, 1) := by decide +kernel
theorem dX8_reserve_46 : decode cX8_reserve 46 = .ok (.iinc 3 1, 3) := by decide +kernel
theorem dX8_reserve_49 : decode cX8_reserve 49 = .ok (.lconst 0, 1) := by decide +kernel
theorem dX8_reserve_50 : decode cX8_reserve 50 = .ok (.lstore 4, 2) := by decide +kernel
theorem dX8_reserve_52 : decode cX8_reserve 52 = .ok (.goto 12, 3) := by decide +kernel
theorem dX8_reserve_55 : decode cX8_reserve 55 = .ok (.lload 4, 2) := by decide +kernel
theorem dX8_reserve_57 : decode cX8_reserve 57 = .ok (.iload 7, 2) := by decide +kernel
theorem dX8_reserve_59 : decode cX8_reserve 59 = .ok (.invokestatic 56, 3) := by decide +kernel
theorem dX8_reserve_62 : decode cX8_reserve 62 = .ok (.lstore 4, 2) := by decide +kernel
theorem dX8_reserve_64 : decode cX8_reserve 64 = .ok (.iinc 6 1, 3) := by decide +kernel
theorem dX8_reserve_67 : decode cX8_reserve 67 = .ok (.goto (-59), 3) := by decide +kernel
theorem dX8_reserve_70 : decode cX8_reserve 70 = .ok (.iload_n 3, 1) := by decide +kernel
theorem dX8_reserve_71 : decode cX8_reserve 71 = .ok (.ireturn, 1) := by decide +kernel
theorem dX8_withLetter_0 : decode cX8_withLetter 0 = .ok (.lload_n 0, 1) := by decide +kernel
theorem dX8_withLetter_1 : decode cX8_withLetter 1 = .ok (.iconst 5, 1) := by decide +kernel
theorem dX8_withLetter_2 : decode cX8_withLetter 2 = .ok (.lshl, 1) := by decide +kernel
theorem dX8_withLetter_3 : decode cX8_withLetter 3 = .ok (.iload_n 2, 1) := by decide +kernel
theorem dX8_withLetter_4 : decode cX8_withLetter 4 = .ok (.bipush 97, 2) := by decide +kernel
theorem dX8_withLetter_6 : decode cX8_withLetter 6 = .ok (.isub, 1) := by decide +kernel
theorem dX8_withLetter_7 : decode cX8_withLetter 7 = .ok (.iconst 1, 1) := by decide +kernel
theorem dX8_withLetter_8 : decode cX8_withLetter 8 = .ok (.iadd, 1) := by decide +kernel
theorem dX8_withLetter_9 : decode cX8_withLetter 9 = .ok (.i2l, 1) := by decide +kernel
theorem dX8_withLetter_10 : decode cX8_withLetter 10 = .ok (.lor, 1) := by decide +kernel
theorem dX8_withLetter_11 : decode cX8_withLetter 11 = .ok (.lreturn, 1) := by decide +kernel
theorem dX8_isLetter_0 : decode cX8_isLetter 0 = .ok (.iload_n 0, 1) := by decide +kernel
theorem dX8_isLetter_1 : decode cX8_isLetter 1 = .ok (.bipush 97, 2) := by decide +kernel
theorem dX8_isLetter_3 : decode cX8_isLetter 3 = .ok (.if_icmp .lt 13, 3) := by decide +kernel
theorem dX8_isLetter_6 : decode cX8_isLetter 6 = .ok (.iload_n 0, 1) := by decide +kernel
theorem dX8_isLetter_7 : decode cX8_isLetter 7 = .ok (.bipush 122, 2) := by decide +kernel
theorem dX8_isLetter_9 : decode cX8_isLetter 9 = .ok (.if_icmp .gt 7, 3) := by decide +kernel
theorem dX8_isLetter_12 : decode cX8_isLetter 12 = .ok (.iconst 1, 1) := by decide +kernel
theorem dX8_isLetter_13 : decode cX8_isLetter 13 = .ok (.goto 4, 3) := by decide +kernel
theorem dX8_isLetter_16 : decode cX8_isLetter 16 = .ok (.iconst 0, 1) := by decide +kernel
theorem dX8_isLetter_17 : decode cX8_isLetter 17 = .ok (.ireturn, 1) := by decide +kernel
theorem dX8_isDigit_0 : decode cX8_isDigit 0 = .ok (.iload_n 0, 1) := by decide +kernel
theorem dX8_isDigit_1 : decode cX8_isDigit 1 = .ok (.bipush 48, 2) := by decide +kernel
theorem dX8_isDigit_3 : decode cX8_isDigit 3 = .ok (.if_icmp .lt 13, 3) := by decide +kernel
theorem dX8_isDigit_6 : decode cX8_isDigit 6 = .ok (.iload_n 0, 1) := by decide +kernel
theorem dX8_isDigit_7 : decode cX8_isDigit 7 = .ok (.bipush 57, 2) := by decide +kernel
theorem dX8_isDigit_9 : decode cX8_isDigit 9 = .ok (.if_icmp .gt 7, 3) := by decide +kernel
theorem dX8_isDigit_12 : decode cX8_isDigit 12 = .ok (.iconst 1, 1) := by decide +kernel
theorem dX8_isDigit_13 : decode cX8_isDigit 13 = .ok (.goto 4, 3) := by decide +kernel
theorem dX8_isDigit_16 : decode cX8_isDigit 16 = .ok (.iconst 0, 1) := by decide +kernel
theorem dX8_isDigit_17 : decode cX8_isDigit 17 = .ok (.ireturn, 1) := by decide +kernel
theorem dX8_isBlank_0 : decode cX8_isBlank 0 = .ok (.iload_n 0, 1) := by decide +kernel
theorem dX8_isBlank_1 : decode cX8_isBlank 1 = .ok (.bipush 10, 2) := by decide +kernel
theorem dX8_isBlank_3 : decode cX8_isBlank 3 = .ok (.if_icmp .eq 9, 3) := by decide +kernel
theorem dX8_isBlank_6 : decode cX8_isBlank 6 = .ok (.iload_n 0, 1) := by decide +kernel
theorem dX8_isBlank_7 : decode cX8_isBlank 7 = .ok (.bipush 32, 2) := by decide +kernel
theorem dX8_isBlank_9 : decode cX8_isBlank 9 = .ok (.if_icmp .ne 7, 3) := by decide +kernel
theorem dX8_isBlank_12 : decode cX8_isBlank 12 = .ok (.iconst 1, 1) := by decide +kernel
theorem dX8_isBlank_13 : decode cX8_isBlank 13 = .ok (.goto 4, 3) := by decide +kernel
theorem dX8_isBlank_16 : decode cX8_isBlank 16 = .ok (.iconst 0, 1) := by decide +kernel
theorem dX8_isBlank_17 : decode cX8_isBlank 17 = .ok (.ireturn, 1) := by decide +kernel
theorem dX8_isSign_0 : decode cX8_isSign 0 = .ok (.iload_n 0, 1) := by decide +kernel
theorem dX8_isSign_1 : decode cX8_isSign 1 = .ok (.bipush 59, 2) := by decide +kernel
theorem dX8_isSign_3 : decode cX8_isSign 3 = .ok (.if_icmp .eq 21, 3) := by decide +kernel
theorem dX8_isSign_6 : decode cX8_isSign 6 = .ok (.iload_n 0, 1) := by decide +kernel
theorem dX8_isSign_7 : decode cX8_isSign 7 = .ok (.bipush 60, 2) := by decide +kernel
theorem dX8_isSign_9 : decode cX8_isSign 9 = .ok (.if_icmp .eq 15, 3) := by decide +kernel
theorem dX8_isSign_12 : decode cX8_isSign 12 = .ok (.iload_n 0, 1) := by decide +kernel
theorem dX8_isSign_13 : decode cX8_isSign 13 = .ok (.bipush 62, 2) := by decide +kernel
theorem dX8_isSign_15 : decode cX8_isSign 15 = .ok (.if_icmp .eq 9, 3) := by decide +kernel
theorem dX8_isSign_18 : decode cX8_isSign 18 = .ok (.iload_n 0, 1) := by decide +kernel
theorem dX8_isSign_19 : decode cX8_isSign 19 = .ok (.bipush 61, 2) := by decide +kernel
theorem dX8_isSign_21 : decode cX8_isSign 21 = .ok (.if_icmp .ne 7, 3) := by decide +kernel
theorem dX8_isSign_24 : decode cX8_isSign 24 = .ok (.iconst 1, 1) := by decide +kernel
theorem dX8_isSign_25 : decode cX8_isSign 25 = .ok (.goto 4, 3) := by decide +kernel
theorem dX8_isSign_28 : decode cX8_isSign 28 = .ok (.iconst 0, 1) := by decide +kernel
theorem dX8_isSign_29 : decode cX8_isSign 29 = .ok (.ireturn, 1) := by decide +kernel
theorem dX8_begin_0 : decode cX8_begin 0 = .ok (.aload_n 0, 1) := by decide +kernel
theorem dX8_begin_1 : decode cX8_begin 1 = .ok (.iconst 0, 1) := by decide +kernel
theorem dX8_begin_2 : decode cX8_begin 2 = .ok (.putfield 60, 3) := by decide +kernel
theorem dX8_begin_5 : decode cX8_begin 5 = .ok (.iload_n 2, 1) := by decide +kernel
theorem dX8_begin_6 : decode cX8_begin 6 = .ok (.aload_n 1, 1) := by decide +kernel
theorem dX8_begin_7 : decode cX8_begin 7 = .ok (.arraylength, 1) := by decide +kernel
theorem dX8_begin_8 : decode cX8_begin 8 = .ok (.invokestatic 63, 3) := by decide +kernel
theorem dX8_begin_11 : decode cX8_begin 11 = .ok (.istore_n 3, 1) := by decide +kernel
theorem dX8_begin_12 : decode cX8_begin 12 = .ok (.iconst 0, 1) := by decide +kernel
theorem dX8_begin_13 : decode cX8_begin 13 = .ok (.istore 4, 2) := by decide +kernel
theorem dX8_begin_15 : decode cX8_begin 15 = .ok (.iconst 0, 1) := by decide +kernel
theorem dX8_begin_16 : decode cX8_begin 16 = .ok (.istore 5, 2) := by decide +kernel
theorem dX8_begin_18 : decode cX8_begin 18 = .ok (.iload 5, 2) := by decide +kernel
theorem dX8_begin_20 : decode cX8_begin 20 = .ok (.iload_n 3, 1) := by decide +kernel
theorem dX8_begin_21 : decode cX8_begin 21 = .ok (.if_icmp .gt 42, 3) := by decide +kernel
theorem dX8_begin_24 : decode cX8_begin 24 = .ok (.iload 4, 2) := by decide +kernel
theorem dX8_begin_26 : decode cX8_begin 26 = .ok (.iload_n 3, 1) := by decide +kernel
theorem dX8_begin_27 : decode cX8_begin 27 = .ok (.if_icmp .ge 36, 3) := by decide +kernel
theorem dX8_begin_30 : decode cX8_begin 30 = .ok (.aload_n 1, 1) := by decide +kernel
theorem dX8_begin_31 : decode cX8_begin 31 = .ok (.iload 4, 2) := by decide +kernel
theorem dX8_begin_33 : decode cX8_begin 33 = .ok (.baload, 1) := by decide +kernel
theorem dX8_begin_34 : decode cX8_begin 34 = .ok (.invokestatic 66, 3) := by decide +kernel
theorem dX8_begin_37 : decode cX8_begin 37 = .ok (.ifCond .eq 10, 3) := by decide +kernel
theorem dX8_begin_40 : decode cX8_begin 40 = .ok (.iload 4, 2) := by decide +kernel
theorem dX8_begin_42 : decode cX8_begin 42 = .ok (.iconst 1, 1) := by decide +kernel
theorem dX8_begin_43 : decode cX8_begin 43 = .ok (.iadd, 1) := by decide +kernel
theorem dX8_begin_44 : decode cX8_begin 44 = .ok (.goto 11, 3) := by decide +kernel
theorem dX8_begin_47 : decode cX8_begin 47 = .ok (.aload_n 0, 1) := by decide +kernel
theorem dX8_begin_48 : decode cX8_begin 48 = .ok (.aload_n 1, 1) := by decide +kernel
theorem dX8_begin_49 : decode cX8_begin 49 = .ok (.iload 4, 2) := by decide +kernel
theorem dX8_begin_51 : decode cX8_begin 51 = .ok (.iload_n 3, 1) := by decide +kernel
theorem dX8_begin_52 : decode cX8_begin 52 = .ok (.invokevirtual 70, 3) := by decide +kernel
theorem dX8_begin_55 : decode cX8_begin 55 = .ok (.istore 4, 2) := by decide +kernel
theorem dX8_begin_57 : decode cX8_begin 57 = .ok (.iinc 5 1, 3) := by decide +kernel
theorem dX8_begin_60 : decode cX8_begin 60 = .ok (.goto (-42), 3) := by decide +kernel
theorem dX8_begin_63 : decode cX8_begin 63 = .ok (.aload_n 0, 1) := by decide +kernel
theorem dX8_begin_64 : decode cX8_begin 64 = .ok (.iconst 0, 1) := by decide +kernel
theorem dX8_begin_65 : decode cX8_begin 65 = .ok (.iload_n 3, 1) := by decide +kernel
theorem dX8_begin_66 : decode cX8_begin 66 = .ok (.lconst 0, 1) := by decide +kernel
theorem dX8_begin_67 : decode cX8_begin 67 = .ok (.invokevirtual 74, 3) := by decide +kernel
theorem dX8_begin_70 : decode cX8_begin 70 = .ok (.aload_n 0, 1) := by decide +kernel
theorem dX8_begin_71 : decode cX8_begin 71 = .ok (.iconst 0, 1) := by decide +kernel
theorem dX8_begin_72 : decode cX8_begin 72 = .ok (.putfield 78, 3) := by decide +kernel
theorem dX8_begin_75 : decode cX8_begin 75 = .ok (.aload_n 0, 1) := by decide +kernel
theorem dX8_begin_76 : decode cX8_begin 76 = .ok (.iconst (-1), 1) := by decide +kernel
theorem dX8_begin_77 : decode cX8_begin 77 = .ok (.putfield 81, 3) := by decide +kernel
theorem dX8_begin_80 : decode cX8_begin 80 = .ok (.aload_n 0, 1) := by decide +kernel
theorem dX8_begin_81 : decode cX8_begin 81 = .ok (.iconst (-1), 1) := by decide +kernel
theorem dX8_begin_82 : decode cX8_begin 82 = .ok (.putfield 84, 3) := by decide +kernel
theorem dX8_begin_85 : decode cX8_begin 85 = .ok (.aload_n 0, 1) := by decide +kernel
theorem dX8_begin_86 : decode cX8_begin 86 = .ok (.invokevirtual 87, 3) := by decide +kernel
theorem dX8_begin_89 : decode cX8_begin 89 = .ok (.return_, 1) := by decide +kernel
theorem dX8_add_0 : decode cX8_add 0 = .ok (.aload_n 0, 1) := by decide +kernel
theorem dX8_add_1 : decode cX8_add 1 = .ok (.getfield 60, 3) := by decide +kernel
theorem dX8_add_4 : decode cX8_add 4 = .ok (.aload_n 0, 1) := by decide +kernel
theorem dX8_add_5 : decode cX8_add 5 = .ok (.getfield 21, 3) := by decide +kernel
theorem dX8_add_8 : decode cX8_add 8 = .ok (.if_icmp .lt 4, 3) := by decide +kernel
theorem dX8_add_11 : decode cX8_add 11 = .ok (.return_, 1) := by decide +kernel
theorem dX8_add_12 : decode cX8_add 12 = .ok (.aload_n 0, 1) := by decide +kernel
theorem dX8_add_13 : decode cX8_add 13 = .ok (.getfield 25, 3) := by decide +kernel
theorem dX8_add_16 : decode cX8_add 16 = .ok (.aload_n 0, 1) := by decide +kernel
theorem dX8_add_17 : decode cX8_add 17 = .ok (.getfield 60, 3) := by decide +kernel
theorem dX8_add_20 : decode cX8_add 20 = .ok (.iload_n 1, 1) := by decide +kernel
theorem dX8_add_21 : decode cX8_add 21 = .ok (.iastore, 1) := by decide +kernel
theorem dX8_add_22 : decode cX8_add 22 = .ok (.aload_n 0, 1) := by decide +kernel
theorem dX8_add_23 : decode cX8_add 23 = .ok (.getfield 29, 3) := by decide +kernel
theorem dX8_add_26 : decode cX8_add 26 = .ok (.aload_n 0, 1) := by decide +kernel
theorem dX8_add_27 : decode cX8_add 27 = .ok (.getfield 60, 3) := by decide +kernel
theorem dX8_add_30 : decode cX8_add 30 = .ok (.iload_n 2, 1) := by decide +kernel
theorem dX8_add_31 : decode cX8_add 31 = .ok (.iastore, 1) := by decide +kernel
theorem dX8_add_32 : decode cX8_add 32 = .ok (.aload_n 0, 1) := by decide +kernel
theorem dX8_add_33 : decode cX8_add 33 = .ok (.getfield 32, 3) := by decide +kernel
theorem dX8_add_36 : decode cX8_add 36 = .ok (.aload_n 0, 1) := by decide +kernel
theorem dX8_add_37 : decode cX8_add 37 = .ok (.getfield 60, 3) := by decide +kernel
theorem dX8_add_40 : decode cX8_add 40 = .ok (.lload_n 3, 1) := by decide +kernel
theorem dX8_add_41 : decode cX8_add 41 = .ok (.lastore, 1) := by decide +kernel
theorem dX8_add_42 : decode cX8_add 42 = .ok (.aload_n 0, 1) := by decide +kernel
theorem dX8_add_43 : decode cX8_add 43 = .ok (.getfield 35, 3) := by decide +kernel
theorem dX8_add_46 : decode cX8_add 46 = .ok (.aload_n 0, 1) := by decide +kernel
theorem dX8_add_47 : decode cX8_add 47 = .ok (.getfield 60, 3) := by decide +kernel
theorem dX8_add_50 : decode cX8_add 50 = .ok (.iload_n 1, 1) := by decide +kernel
theorem dX8_add_51 : decode cX8_add 51 = .ok (.iconst 1, 1) := by decide +kernel
theorem dX8_add_52 : decode cX8_add 52 = .ok (.if_icmp .ne 16, 3) := by decide +kernel
theorem dX8_add_55 : decode cX8_add 55 = .ok (.aload_n 0, 1) := by decide +kernel
theorem dX8_add_56 : decode cX8_add 56 = .ok (.getfield 11, 3) := by decide +kernel
theorem dX8_add_59 : decode cX8_add 59 = .ok (.bipush 28, 2) := by decide +kernel
theorem dX8_add_61 : decode cX8_add 61 = .ok (.lload_n 3, 1) := by decide +kernel
theorem dX8_add_62 : decode cX8_add 62 = .ok (.invokestatic 90, 3) := by decide +kernel
theorem dX8_add_65 : decode cX8_add 65 = .ok (.goto 4, 3) := by decide +kernel
theorem dX8_add_68 : decode cX8_add 68 = .ok (.iconst (-1), 1) := by decide +kernel
theorem dX8_add_69 : decode cX8_add 69 = .ok (.iastore, 1) := by decide +kernel
theorem dX8_add_70 : decode cX8_add 70 = .ok (.aload_n 0, 1) := by decide +kernel
theorem dX8_add_71 : decode cX8_add 71 = .ok (.dup, 1) := by decide +kernel
theorem dX8_add_72 : decode cX8_add 72 = .ok (.getfield 60, 3) := by decide +kernel
theorem dX8_add_75 : decode cX8_add 75 = .ok (.iconst 1, 1) := by decide +kernel
theorem dX8_add_76 : decode cX8_add 76 = .ok (.iadd, 1) := by decide +kernel
theorem dX8_add_77 : decode cX8_add 77 = .ok (.putfield 60, 3) := by decide +kernel
theorem dX8_add_80 : decode cX8_add 80 = .ok (.return_, 1) := by decide +kernel
theorem dX8_behindToken_0 : decode cX8_behindToken 0 = .ok (.aload_n 1, 1) := by decide +kernel
theorem dX8_behindToken_1 : decode cX8_behindToken 1 = .ok (.iload_n 2, 1) := by decide +kernel
theorem dX8_behindToken_2 : decode cX8_behindToken 2 = .ok (.baload, 1) := by decide +kernel
theorem dX8_behindToken_3 : decode cX8_behindToken 3 = .ok (.invokestatic 94, 3) := by decide +kernel
theorem dX8_behindToken_6 : decode cX8_behindToken 6 = .ok (.ifCond .eq 11, 3) := by decide +kernel
theorem dX8_behindToken_9 : decode cX8_behindToken 9 = .ok (.aload_n 0, 1) := by decide +kernel
theorem dX8_behindToken_10 : decode cX8_behindToken 10 = .ok (.aload_n 1, 1) := by decide +kernel
theorem dX8_behindToken_11 : decode cX8_behindToken 11 = .ok (.iload_n 2, 1) := by decide +kernel
theorem dX8_behindToken_12 : decode cX8_behindToken 12 = .ok (.iload_n 3, 1) := by decide +kernel
theorem dX8_behindToken_13 : decode cX8_behindToken 13 = .ok (.invokevirtual 97, 3) := by decide +kernel
theorem dX8_behindToken_16 : decode cX8_behindToken 16 = .ok (.ireturn, 1) := by decide +kernel
theorem dX8_behindToken_17 : decode cX8_behindToken 17 = .ok (.aload_n 1, 1) := by decide +kernel
theorem dX8_behindToken_18 : decode cX8_behindToken 18 = .ok (.iload_n 2, 1) := by decide +kernel
theorem dX8_behindToken_19 : decode cX8_behindToken 19 = .ok (.baload, 1) := by decide +kernel
theorem dX8_behindToken_20 : decode cX8_behindToken 20 = .ok (.invokestatic 100, 3) := by decide +kernel
theorem dX8_behindToken_23 : decode cX8_behindToken 23 = .ok (.ifCond .eq 11, 3) := by decide +kernel
theorem dX8_behindToken_26 : decode cX8_behindToken 26 = .ok (.aload_n 0, 1) := by decide +kernel
theorem dX8_behindToken_27 : decode cX8_behindToken 27 = .ok (.aload_n 1, 1) := by decide +kernel
theorem dX8_behindToken_28 : decode cX8_behindToken 28 = .ok (.iload_n 2, 1) := by decide +kernel
theorem dX8_behindToken_29 : decode cX8_behindToken 29 = .ok (.iload_n 3, 1) := by decide +kernel
theorem dX8_behindToken_30 : decode cX8_behindToken 30 = .ok (.invokevirtual 103, 3) := by decide +kernel
theorem dX8_behindToken_33 : decode cX8_behindToken 33 = .ok (.ireturn, 1) := by decide +kernel
theorem dX8_behindToken_34 : decode cX8_behindToken 34 = .ok (.aload_n 1, 1) := by decide +kernel
theorem dX8_behindToken_35 : decode cX8_behindToken 35 = .ok (.iload_n 2, 1) := by decide +kernel
theorem dX8_behindToken_36 : decode cX8_behindToken 36 = .ok (.baload, 1) := by decide +kernel
theorem dX8_behindToken_37 : decode cX8_behindToken 37 = .ok (.invokestatic 106, 3) := by decide +kernel
theorem dX8_behindToken_40 : decode cX8_behindToken 40 = .ok (.ifCond .eq 17, 3) := by decide +kernel
theorem dX8_behindToken_43 : decode cX8_behindToken 43 = .ok (.aload_n 0, 1) := by decide +kernel
theorem dX8_behindToken_44 : decode cX8_behindToken 44 = .ok (.iconst 3, 1) := by decide +kernel
theorem dX8_behindToken_45 : decode cX8_behindToken 45 = .ok (.iload_n 2, 1) := by decide +kernel
theorem dX8_behindToken_46 : decode cX8_behindToken 46 = .ok (.aload_n 1, 1) := by decide +kernel
theorem dX8_behindToken_47 : decode cX8_behindToken 47 = .ok (.iload_n 2, 1) := by decide +kernel
theorem dX8_behindToken_48 : decode cX8_behindToken 48 = .ok (.baload, 1) := by decide +kernel
theorem dX8_behindToken_49 : decode cX8_behindToken 49 = .ok (.i2l, 1) := by decide +kernel
theorem dX8_behindToken_50 : decode cX8_behindToken 50 = .ok (.invokevirtual 74, 3) := by decide +kernel
theorem dX8_behindToken_53 : decode cX8_behindToken 53 = .ok (.iload_n 2, 1) := by decide +kernel
theorem dX8_behindToken_54 : decode cX8_behindToken 54 = .ok (.iconst 1, 1) := by decide +kernel
theorem dX8_behindToken_55 : decode cX8_behindToken 55 = .ok (.iadd, 1) := by decide +kernel
theorem dX8_behindToken_56 : decode cX8_behindToken 56 = .ok (.ireturn, 1) := by decide +kernel
theorem dX8_behindToken_57 : decode cX8_behindToken 57 = .ok (.aload_n 0, 1) := by decide +kernel
theorem dX8_behindToken_58 : decode cX8_behindToken 58 = .ok (.iconst 4, 1) := by decide +kernel
theorem dX8_behindToken_59 : decode cX8_behindToken 59 = .ok (.iload_n 2, 1) := by decide +kernel
theorem dX8_behindToken_60 : decode cX8_behindToken 60 = .ok (.lconst 0, 1) := by decide +kernel
theorem dX8_behindToken_61 : decode cX8_behindToken 61 = .ok (.invokevirtual 74, 3) := by decide +kernel
theorem dX8_behindToken_64 : decode cX8_behindToken 64 = .ok (.iload_n 3, 1) := by decide +kernel
theorem dX8_behindToken_65 : decode cX8_behindToken 65 = .ok (.ireturn, 1) := by decide +kernel
theorem dX8_behindWord_0 : decode cX8_behindWord 0 = .ok (.lconst 0, 1) := by decide +kernel
theorem dX8_behindWord_1 : decode cX8_behindWord 1 = .ok (.lstore 4, 2) := by decide +kernel
theorem dX8_behindWord_3 : decode cX8_behindWord 3 = .ok (.iload_n 2, 1) := by decide +kernel
theorem dX8_behindWord_4 : decode cX8_behindWord 4 = .ok (.istore 6, 2) := by decide +kernel
theorem dX8_behindWord_6 : decode cX8_behindWord 6 = .ok (.iload 6, 2) := by decide +kernel
theorem dX8_behindWord_8 : decode cX8_behindWord 8 = .ok (.iload_n 3, 1) := by decide +kernel
theorem dX8_behindWord_9 : decode cX8_behindWord 9 = .ok (.if_icmp .ge 43, 3) := by decide +kernel
theorem dX8_behindWord_12 : decode cX8_behindWord 12 = .ok (.aload_n 1, 1) := by decide +kernel
theorem dX8_behindWord_13 : decode cX8_behindWord 13 = .ok (.iload 6, 2) := by decide +kernel
theorem dX8_behindWord_15 : decode cX8_behindWord 15 = .ok (.baload, 1) := by decide +kernel
theorem dX8_behindWord_16 : decode cX8_behindWord 16 = .ok (.invokestatic 94, 3) := by decide +kernel
theorem dX8_behindWord_19 : decode cX8_behindWord 19 = .ok (.ifCond .eq 33, 3) := by decide +kernel
theorem dX8_behindWord_22 : decode cX8_behindWord 22 = .ok (.iload 6, 2) := by decide +kernel
theorem dX8_behindWord_24 : decode cX8_behindWord 24 = .ok (.iload_n 2, 1) := by decide +kernel
theorem dX8_behindWord_25 : decode cX8_behindWord 25 = .ok (.isub, 1) := by decide +kernel
theorem dX8_behindWord_26 : decode cX8_behindWord 26 = .ok (.bipush 8, 2) := by decide +kernel
theorem dX8_behindWord_28 : decode cX8_behindWord 28 = .ok (.if_icmp .ge 15, 3) := by decide +kernel
theorem dX8_behindWord_31 : decode cX8_behindWord 31 = .ok (.lload 4, 2) := by decide +kernel
theorem dX8_behindWord_33 : decode cX8_behindWord 33 = .ok (.aload_n 1, 1) := by decide +kernel
theorem dX8_behindWord_34 : decode cX8_behindWord 34 = .ok (.iload 6, 2) := by decide +kernel
theorem dX8_behindWord_36 : decode cX8_behindWord 36 = .ok (.baload, 1) := by decide +kernel
theorem dX8_behindWord_37 : decode cX8_behindWord 37 = .ok (.invokestatic 56, 3) := by decide +kernel
theorem dX8_behindWord_40 : decode cX8_behindWord 40 = .ok (.goto 4, 3) := by decide +kernel
theorem dX8_behindWord_43 : decode cX8_behindWord 43 = .ok (.lconst 0, 1) := by decide +kernel
theorem dX8_behindWord_44 : decode cX8_behindWord 44 = .ok (.lstore 4, 2) := by decide +kernel
theorem dX8_behindWord_46 : decode cX8_behindWord 46 = .ok (.iinc 6 1, 3) := by decide +kernel
theorem dX8_behindWord_49 : decode cX8_behindWord 49 = .ok (.goto (-43), 3) := by decide +kernel
theorem dX8_behindWord_52 : decode cX8_behindWord 52 = .ok (.aload_n 0, 1) := by decide +kernel
theorem dX8_behindWord_53 : decode cX8_behindWord 53 = .ok (.iconst 1, 1) := by decide +kernel
theorem dX8_behindWord_54 : decode cX8_behindWord 54 = .ok (.iload_n 2, 1) := by decide +kernel
theorem dX8_behindWord_55 : decode cX8_behindWord 55 = .ok (.lload 4, 2) := by decide +kernel
theorem dX8_behindWord_57 : decode cX8_behindWord 57 = .ok (.invokevirtual 74, 3) := by decide +kernel
theorem dX8_behindWord_60 : decode cX8_behindWord 60 = .ok (.iload 6, 2) := by decide +kernel
theorem dX8_behindWord_62 : decode cX8_behindWord 62 = .ok (.ireturn, 1) := by decide +kernel
theorem dX8_behindNumber_0 : decode cX8_behindNumber 0 = .ok (.iconst 0, 1) := by decide +kernel
theorem dX8_behindNumber_1 : decode cX8_behindNumber 1 = .ok (.istore 4, 2) := by decide +kernel
theorem dX8_behindNumber_3 : decode cX8_behindNumber 3 = .ok (.iload_n 2, 1) := by decide +kernel
theorem dX8_behindNumber_4 : decode cX8_behindNumber 4 = .ok (.istore 5, 2) := by decide +kernel
theorem dX8_behindNumber_6 : decode cX8_behindNumber 6 = .ok (.iload 5, 2) := by decide +kernel
theorem dX8_behindNumber_8 : decode cX8_behindNumber 8 = .ok (.iload_n 3, 1) := by decide +kernel
theorem dX8_behindNumber_9 : decode cX8_behindNumber 9 = .ok (.if_icmp .ge 46, 3) := by decide +kernel
theorem dX8_behindNumber_12 : decode cX8_behindNumber 12 = .ok (.aload_n 1, 1) := by decide +kernel
theorem dX8_behindNumber_13 : decode cX8_behindNumber 13 = .ok (.iload 5, 2) := by decide +kernel
theorem dX8_behindNumber_15 : decode cX8_behindNumber 15 = .ok (.baload, 1) := by decide +kernel
theorem dX8_behindNumber_16 : decode cX8_behindNumber 16 = .ok (.invokestatic 100, 3) := by decide +kernel
theorem dX8_behindNumber_19 : decode cX8_behindNumber 19 = .ok (.ifCond .eq 36, 3) := by decide +kernel
theorem dX8_behindNumber_22 : decode cX8_behindNumber 22 = .ok (.iload 5, 2) := by decide +kernel
theorem dX8_behindNumber_24 : decode cX8_behindNumber 24 = .ok (.iload_n 2, 1) := by decide +kernel
theorem dX8_behindNumber_25 : decode cX8_behindNumber 25 = .ok (.isub, 1) := by decide +kernel
theorem dX8_behindNumber_26 : decode cX8_behindNumber 26 = .ok (.iconst 4, 1) := by decide +kernel
theorem dX8_behindNumber_27 : decode cX8_behindNumber 27 = .ok (.if_icmp .ge 19, 3) := by decide +kernel
theorem dX8_behindNumber_30 : decode cX8_behindNumber 30 = .ok (.iload 4, 2) := by decide +kernel
theorem dX8_behindNumber_32 : decode cX8_behindNumber 32 = .ok (.bipush 10, 2) := by decide +kernel
theorem dX8_behindNumber_34 : decode cX8_behindNumber 34 = .ok (.imul, 1) := by decide +kernel
theorem dX8_behindNumber_35 : decode cX8_behindNumber 35 = .ok (.aload_n 1, 1) := by decide +kernel
theorem dX8_behindNumber_36 : decode cX8_behindNumber 36 = .ok (.iload 5, 2) := by decide +kernel
theorem dX8_behindNumber_38 : decode cX8_behindNumber 38 = .ok (.baload, 1) := by decide +kernel
theorem dX8_behindNumber_39 : decode cX8_behindNumber 39 = .ok (.iadd, 1) := by decide +kernel
theorem dX8_behindNumber_40 : decode cX8_behindNumber 40 = .ok (.bipush 48, 2) := by decide +kernel
theorem dX8_behindNumber_42 : decode cX8_behindNumber 42 = .ok (.isub, 1) := by decide +kernel
theorem dX8_behindNumber_43 : decode cX8_behindNumber 43 = .ok (.goto 4, 3) := by decide +kernel
theorem dX8_behindNumber_46 : decode cX8_behindNumber 46 = .ok (.iconst 0, 1) := by decide +kernel
theorem dX8_behindNumber_47 : decode cX8_behindNumber 47 = .ok (.istore 4, 2) := by decide +kernel
theorem dX8_behindNumber_49 : decode cX8_behindNumber 49 = .ok (.iinc 5 1, 3) := by decide +kernel
theorem dX8_behindNumber_52 : decode cX8_behindNumber 52 = .ok (.goto (-46), 3) := by decide +kernel
theorem dX8_behindNumber_55 : decode cX8_behindNumber 55 = .ok (.aload_n 0, 1) := by decide +kernel
theorem dX8_behindNumber_56 : decode cX8_behindNumber 56 = .ok (.iload 5, 2) := by decide +kernel
theorem dX8_behindNumber_58 : decode cX8_behindNumber 58 = .ok (.iload_n 2, 1) := by decide +kernel
theorem dX8_behindNumber_59 : decode cX8_behindNumber 59 = .ok (.isub, 1) := by decide +kernel
theorem dX8_behindNumber_60 : decode cX8_behindNumber 60 = .ok (.iconst 4, 1) := by decide +kernel
theorem dX8_behindNumber_61 : decode cX8_behindNumber 61 = .ok (.if_icmp .le 7, 3) := by decide +kernel
theorem dX8_behindNumber_64 : decode cX8_behindNumber 64 = .ok (.iconst 4, 1) := by decide +kernel
theorem dX8_behindNumber_65 : decode cX8_behindNumber 65 = .ok (.goto 4, 3) := by decide +kernel
theorem dX8_behindNumber_68 : decode cX8_behindNumber 68 = .ok (.iconst 2, 1) := by decide +kernel
theorem dX8_behindNumber_69 : decode cX8_behindNumber 69 = .ok (.iload_n 2, 1) := by decide +kernel
theorem dX8_behindNumber_70 : decode cX8_behindNumber 70 = .ok (.iload 4, 2) := by decide +kernel
theorem dX8_behindNumber_72 : decode cX8_behindNumber 72 = .ok (.i2l, 1) := by decide +kernel
theorem dX8_behindNumber_73 : decode cX8_behindNumber 73 = .ok (.invokevirtual 74, 3) := by decide +kernel
theorem dX8_behindNumber_76 : decode cX8_behindNumber 76 = .ok (.iload 5, 2) := by decide +kernel
theorem dX8_behindNumber_78 : decode cX8_behindNumber 78 = .ok (.ireturn, 1) := by decide +kernel
theorem dX8_advance_0 : decode cX8_advance 0 = .ok (.aload_n 0, 1) := by decide +kernel
theorem dX8_advance_1 : decode cX8_advance 1 = .ok (.aload_n 0, 1) := by decide +kernel
theorem dX8_advance_2 : decode cX8_advance 2 = .ok (.getfield 84, 3) := by decide +kernel
theorem dX8_advance_5 : decode cX8_advance 5 = .ok (.iconst 1, 1) := by decide +kernel
theorem dX8_advance_6 : decode cX8_advance 6 = .ok (.iadd, 1) := by decide +kernel
theorem dX8_advance_7 : decode cX8_advance 7 = .ok (.aload_n 0, 1) := by decide +kernel
theorem dX8_advance_8 : decode cX8_advance 8 = .ok (.getfield 60, 3) := by decide +kernel
theorem dX8_advance_11 : decode cX8_advance 11 = .ok (.if_icmp .ge 12, 3) := by decide +kernel
theorem dX8_advance_14 : decode cX8_advance 14 = .ok (.aload_n 0, 1) := by decide +kernel
theorem dX8_advance_15 : decode cX8_advance 15 = .ok (.getfield 84, 3) := by decide +kernel
theorem dX8_advance_18 : decode cX8_advance 18 = .ok (.iconst 1, 1) := by decide +kernel
theorem dX8_advance_19 : decode cX8_advance 19 = .ok (.iadd, 1) := by decide +kernel
theorem dX8_advance_20 : decode cX8_advance 20 = .ok (.goto 7, 3) := by decide +kernel
theorem dX8_advance_23 : decode cX8_advance 23 = .ok (.aload_n 0, 1) := by decide +kernel
theorem dX8_advance_24 : decode cX8_advance 24 = .ok (.getfield 84, 3) := by decide +kernel
theorem dX8_advance_27 : decode cX8_advance 27 = .ok (.putfield 84, 3) := by decide +kernel
theorem dX8_advance_30 : decode cX8_advance 30 = .ok (.aload_n 0, 1) := by decide +kernel
theorem dX8_advance_31 : decode cX8_advance 31 = .ok (.aload_n 0, 1) := by decide +kernel
theorem dX8_advance_32 : decode cX8_advance 32 = .ok (.getfield 25, 3) := by decide +kernel
theorem dX8_advance_35 : decode cX8_advance 35 = .ok (.aload_n 0, 1) := by decide +kernel
theorem dX8_advance_36 : decode cX8_advance 36 = .ok (.getfield 84, 3) := by decide +kernel
theorem dX8_advance_39 : decode cX8_advance 39 = .ok (.iaload, 1) := by decide +kernel
theorem dX8_advance_40 : decode cX8_advance 40 = .ok (.putfield 109, 3) := by decide +kernel
theorem dX8_advance_43 : decode cX8_advance 43 = .ok (.aload_n 0, 1) := by decide +kernel
theorem dX8_advance_44 : decode cX8_advance 44 = .ok (.aload_n 0, 1) := by decide +kernel
theorem dX8_advance_45 : decode cX8_advance 45 = .ok (.getfield 29, 3) := by decide +kernel
theorem dX8_advance_48 : decode cX8_advance 48 = .ok (.aload_n 0, 1) := by decide +kernel
theorem dX8_advance_49 : decode cX8_advance 49 = .ok (.getfield 84, 3) := by decide +kernel
theorem dX8_advance_52 : decode cX8_advance 52 = .ok (.iaload, 1) := by decide +kernel
theorem dX8_advance_53 : decode cX8_advance 53 = .ok (.putfield 112, 3) := by decide +kernel
theorem dX8_advance_56 : decode cX8_advance 56 = .ok (.aload_n 0, 1) := by decide +kernel
theorem dX8_advance_57 : decode cX8_advance 57 = .ok (.aload_n 0, 1) := by decide +kernel
theorem dX8_advance_58 : decode cX8_advance 58 = .ok (.getfield 35, 3) := by decide +kernel
theorem dX8_advance_61 : decode cX8_advance 61 = .ok (.aload_n 0, 1) := by decide +kernel
theorem dX8_advance_62 : decode cX8_advance 62 = .ok (.getfield 84, 3) := by decide +kernel
theorem dX8_advance_65 : decode cX8_advance 65 = .ok (.iaload, 1) := by decide +kernel
theorem dX8_advance_66 : decode cX8_advance 66 = .ok (.putfield 115, 3) := by decide +kernel
theorem dX8_advance_69 : decode cX8_advance 69 = .ok (.aload_n 0, 1) := by decide +kernel
theorem dX8_advance_70 : decode cX8_advance 70 = .ok (.aload_n 0, 1) := by decide +kernel
theorem dX8_advance_71 : decode cX8_advance 71 = .ok (.getfield 109, 3) := by decide +kernel
theorem dX8_advance_74 : decode cX8_advance 74 = .ok (.iconst 1, 1) := by decide +kernel
theorem dX8_advance_75 : decode cX8_advance 75 = .ok (.if_icmp .ne 15, 3) := by decide +kernel
theorem dX8_advance_78 : decode cX8_advance 78 = .ok (.aload_n 0, 1) := by decide +kernel
theorem dX8_advance_79 : decode cX8_advance 79 = .ok (.getfield 32, 3) := by decide +kernel
theorem dX8_advance_82 : decode cX8_advance 82 = .ok (.aload_n 0, 1) := by decide +kernel
theorem dX8_advance_83 : decode cX8_advance 83 = .ok (.getfield 84, 3) := by decide +kernel
theorem dX8_advance_86 : decode cX8_advance 86 = .ok (.laload, 1) := by decide +kernel
theorem dX8_advance_87 : decode cX8_advance 87 = .ok (.goto 4, 3) := by decide +kernel
theorem dX8_advance_90 : decode cX8_advance 90 = .ok (.lconst 0, 1) := by decide +kernel
theorem dX8_advance_91 : decode cX8_advance 91 = .ok (.putfield 118, 3) := by decide +kernel
theorem dX8_advance_94 : decode cX8_advance 94 = .ok (.aload_n 0, 1) := by decide +kernel
theorem dX8_advance_95 : decode cX8_advance 95 = .ok (.aload_n 0, 1) := by decide +kernel
theorem dX8_advance_96 : decode cX8_advance 96 = .ok (.getfield 109, 3) := by decide +kernel
theorem dX8_advance_99 : decode cX8_advance 99 = .ok (.iconst 2, 1) := by decide +kernel
theorem dX8_advance_100 : decode cX8_advance 100 = .ok (.if_icmp .ne 16, 3) := by decide +kernel
theorem dX8_advance_103 : decode cX8_advance 103 = .ok (.aload_n 0, 1) := by decide +kernel
theorem dX8_advance_104 : decode cX8_advance 104 = .ok (.getfield 32, 3) := by decide +kernel
theorem dX8_advance_107 : decode cX8_advance 107 = .ok (.aload_n 0, 1) := by decide +kernel
theorem dX8_advance_108 : decode cX8_advance 108 = .ok (.getfield 84, 3) := by decide +kernel
theorem dX8_advance_111 : decode cX8_advance 111 = .ok (.laload, 1) := by decide +kernel
theorem dX8_advance_112 : decode cX8_advance 112 = .ok (.l2i, 1) := by decide +kernel
theorem dX8_advance_113 : decode cX8_advance 113 = .ok (.goto 4, 3) := by decide +kernel
theorem dX8_advance_116 : decode cX8_advance 116 = .ok (.iconst 0, 1) := by decide +kernel
theorem dX8_advance_117 : decode cX8_advance 117 = .ok (.putfield 122, 3) := by decide +kernel
theorem dX8_advance_120 : decode cX8_advance 120 = .ok (.aload_n 0, 1) := by decide +kernel
theorem dX8_advance_121 : decode cX8_advance 121 = .ok (.aload_n 0, 1) := by decide +kernel
theorem dX8_advance_122 : decode cX8_advance 122 = .ok (.getfield 109, 3) := by decide +kernel
theorem dX8_advance_125 : decode cX8_advance 125 = .ok (.iconst 3, 1) := by decide +kernel
theorem dX8_advance_126 : decode cX8_advance 126 = .ok (.if_icmp .ne 16, 3) := by decide +kernel
theorem dX8_advance_129 : decode cX8_advance 129 = .ok (.aload_n 0, 1) := by decide +kernel
theorem dX8_advance_130 : decode cX8_advance 130 = .ok (.getfield 32, 3) := by decide +kernel
theorem dX8_advance_133 : decode cX8_advance 133 = .ok (.aload_n 0, 1) := by decide +kernel
theorem dX8_advance_134 : decode cX8_advance 134 = .ok (.getfield 84, 3) := by decide +kernel
theorem dX8_advance_137 : decode cX8_advance 137 = .ok (.laload, 1) := by decide +kernel
theorem dX8_advance_138 : decode cX8_advance 138 = .ok (.l2i, 1) := by decide +kernel
theorem dX8_advance_139 : decode cX8_advance 139 = .ok (.goto 4, 3) := by decide +kernel
theorem dX8_advance_142 : decode cX8_advance 142 = .ok (.iconst 0, 1) := by decide +kernel
theorem dX8_advance_143 : decode cX8_advance 143 = .ok (.putfield 125, 3) := by decide +kernel
theorem dX8_advance_146 : decode cX8_advance 146 = .ok (.return_, 1) := by decide +kernel
theorem dX8_isAtEnd_0 : decode cX8_isAtEnd 0 = .ok (.aload_n 0, 1) := by decide +kernel
theorem dX8_isAtEnd_1 : decode cX8_isAtEnd 1 = .ok (.getfield 109, 3) := by decide +kernel
theorem dX8_isAtEnd_4 : decode cX8_isAtEnd 4 = .ok (.ifCond .ne 7, 3) := by decide +kernel
theorem dX8_isAtEnd_7 : decode cX8_isAtEnd 7 = .ok (.iconst 1, 1) := by decide +kernel
theorem dX8_isAtEnd_8 : decode cX8_isAtEnd 8 = .ok (.goto 4, 3) := by decide +kernel
theorem dX8_isAtEnd_11 : decode cX8_isAtEnd 11 = .ok (.iconst 0, 1) := by decide +kernel
theorem dX8_isAtEnd_12 : decode cX8_isAtEnd 12 = .ok (.ireturn, 1) := by decide +kernel
theorem dX8_wrong_0 : decode cX8_wrong 0 = .ok (.aload_n 0, 1) := by decide +kernel
theorem dX8_wrong_1 : decode cX8_wrong 1 = .ok (.aload_n 0, 1) := by decide +kernel
theorem dX8_wrong_2 : decode cX8_wrong 2 = .ok (.getfield 109, 3) := by decide +kernel
theorem dX8_wrong_5 : decode cX8_wrong 5 = .ok (.iconst 4, 1) := by decide +kernel
theorem dX8_wrong_6 : decode cX8_wrong 6 = .ok (.if_icmp .ne 7, 3) := by decide +kernel
theorem dX8_wrong_9 : decode cX8_wrong 9 = .ok (.iconst 1, 1) := by decide +kernel
theorem dX8_wrong_10 : decode cX8_wrong 10 = .ok (.goto 4, 3) := by decide +kernel
theorem dX8_wrong_13 : decode cX8_wrong 13 = .ok (.iload_n 1, 1) := by decide +kernel
theorem dX8_wrong_14 : decode cX8_wrong 14 = .ok (.putfield 78, 3) := by decide +kernel
theorem dX8_wrong_17 : decode cX8_wrong 17 = .ok (.aload_n 0, 1) := by decide +kernel
theorem dX8_wrong_18 : decode cX8_wrong 18 = .ok (.aload_n 0, 1) := by decide +kernel
theorem dX8_wrong_19 : decode cX8_wrong 19 = .ok (.getfield 112, 3) := by decide +kernel
theorem dX8_wrong_22 : decode cX8_wrong 22 = .ok (.putfield 81, 3) := by decide +kernel
theorem dX8_wrong_25 : decode cX8_wrong 25 = .ok (.iconst 0, 1) := by decide +kernel
theorem dX8_wrong_26 : decode cX8_wrong 26 = .ok (.ireturn, 1) := by decide +kernel
theorem dX8_takeWord_0 : decode cX8_takeWord 0 = .ok (.aload_n 0, 1) := by decide +kernel
theorem dX8_takeWord_1 : decode cX8_takeWord 1 = .ok (.getfield 115, 3) := by decide +kernel
theorem dX8_takeWord_4 : decode cX8_takeWord 4 = .ok (.iload_n 1, 1) := by decide +kernel
theorem dX8_takeWord_5 : decode cX8_takeWord 5 = .ok (.if_icmp .eq 9, 3) := by decide +kernel
theorem dX8_takeWord_8 : decode cX8_takeWord 8 = .ok (.aload_n 0, 1) := by decide +kernel
theorem dX8_takeWord_9 : decode cX8_takeWord 9 = .ok (.iconst 2, 1) := by decide +kernel
theorem dX8_takeWord_10 : decode cX8_takeWord 10 = .ok (.invokevirtual 128, 3) := by decide +kernel
theorem dX8_takeWord_13 : decode cX8_takeWord 13 = .ok (.ireturn, 1) := by decide +kernel
theorem dX8_takeWord_14 : decode cX8_takeWord 14 = .ok (.aload_n 0, 1) := by decide +kernel
theorem dX8_takeWord_15 : decode cX8_takeWord 15 = .ok (.invokevirtual 87, 3) := by decide +kernel
theorem dX8_takeWord_18 : decode cX8_takeWord 18 = .ok (.iconst 1, 1) := by decide +kernel
theorem dX8_takeWord_19 : decode cX8_takeWord 19 = .ok (.ireturn, 1) := by decide +kernel
theorem dX8_takeStop_0 : decode cX8_takeStop 0 = .ok (.aload_n 0, 1) := by decide +kernel
theorem dX8_takeStop_1 : decode cX8_takeStop 1 = .ok (.getfield 125, 3) := by decide +kernel
theorem dX8_takeStop_4 : decode cX8_takeStop 4 = .ok (.bipush 59, 2) := by decide +kernel
theorem dX8_takeStop_6 : decode cX8_takeStop 6 = .ok (.if_icmp .eq 9, 3) := by decide +kernel
theorem dX8_takeStop_9 : decode cX8_takeStop 9 = .ok (.aload_n 0, 1) := by decide +kernel
theorem dX8_takeStop_10 : decode cX8_takeStop 10 = .ok (.iconst 2, 1) := by decide +kernel
theorem dX8_takeStop_11 : decode cX8_takeStop 11 = .ok (.invokevirtual 128, 3) := by decide +kernel
theorem dX8_takeStop_14 : decode cX8_takeStop 14 = .ok (.ireturn, 1) := by decide +kernel
theorem dX8_takeStop_15 : decode cX8_takeStop 15 = .ok (.aload_n 0, 1) := by decide +kernel
theorem dX8_takeStop_16 : decode cX8_takeStop 16 = .ok (.invokevirtual 87, 3) := by decide +kernel
theorem dX8_takeStop_19 : decode cX8_takeStop 19 = .ok (.iconst 1, 1) := by decide +kernel
theorem dX8_takeStop_20 : decode cX8_takeStop 20 = .ok (.ireturn, 1) := by decide +kernel
theorem dX8_takeNumber_0 : decode cX8_takeNumber 0 = .ok (.aload_n 0, 1) := by decide +kernel
theorem dX8_takeNumber_1 : decode cX8_takeNumber 1 = .ok (.getfield 109, 3) := by decide +kernel
theorem dX8_takeNumber_4 : decode cX8_takeNumber 4 = .ok (.iconst 2, 1) := by decide +kernel
theorem dX8_takeNumber_5 : decode cX8_takeNumber 5 = .ok (.if_icmp .eq 11, 3) := by decide +kernel
theorem dX8_takeNumber_8 : decode cX8_takeNumber 8 = .ok (.aload_n 0, 1) := by decide +kernel
theorem dX8_takeNumber_9 : decode cX8_takeNumber 9 = .ok (.iconst 2, 1) := by decide +kernel
theorem dX8_takeNumber_10 : decode cX8_takeNumber 10 = .ok (.invokevirtual 128, 3) := by decide +kernel
theorem dX8_takeNumber_13 : decode cX8_takeNumber 13 = .ok (.pop, 1) := by decide +kernel
theorem dX8_takeNumber_14 : decode cX8_takeNumber 14 = .ok (.iconst (-1), 1) := by decide +kernel
theorem dX8_takeNumber_15 : decode cX8_takeNumber 15 = .ok (.ireturn, 1) := by decide +kernel
theorem dX8_takeNumber_16 : decode cX8_takeNumber 16 = .ok (.aload_n 0, 1) := by decide +kernel
theorem dX8_takeNumber_17 : decode cX8_takeNumber 17 = .ok (.getfield 122, 3) := by decide +kernel
theorem dX8_takeNumber_20 : decode cX8_takeNumber 20 = .ok (.iload_n 1, 1) := by decide +kernel
theorem dX8_takeNumber_21 : decode cX8_takeNumber 21 = .ok (.if_icmp .lt 11, 3) := by decide +kernel
theorem dX8_takeNumber_24 : decode cX8_takeNumber 24 = .ok (.aload_n 0, 1) := by decide +kernel
theorem dX8_takeNumber_25 : decode cX8_takeNumber 25 = .ok (.getfield 122, 3) := by decide +kernel
theorem dX8_takeNumber_28 : decode cX8_takeNumber 28 = .ok (.iload_n 2, 1) := by decide +kernel
theorem dX8_takeNumber_29 : decode cX8_takeNumber 29 = .ok (.if_icmp .le 11, 3) := by decide +kernel
theorem dX8_takeNumber_32 : decode cX8_takeNumber 32 = .ok (.aload_n 0, 1) := by decide +kernel
theorem dX8_takeNumber_33 : decode cX8_takeNumber 33 = .ok (.iconst 4, 1) := by decide +kernel
theorem dX8_takeNumber_34 : decode cX8_takeNumber 34 = .ok (.invokevirtual 128, 3) := by decide +kernel
theorem dX8_takeNumber_37 : decode cX8_takeNumber 37 = .ok (.pop, 1) := by decide +kernel
theorem dX8_takeNumber_38 : decode cX8_takeNumber 38 = .ok (.iconst (-1), 1) := by decide +kernel
theorem dX8_takeNumber_39 : decode cX8_takeNumber 39 = .ok (.ireturn, 1) := by decide +kernel
theorem dX8_takeNumber_40 : decode cX8_takeNumber 40 = .ok (.aload_n 0, 1) := by decide +kernel
theorem dX8_takeNumber_41 : decode cX8_takeNumber 41 = .ok (.getfield 122, 3) := by decide +kernel
theorem dX8_takeNumber_44 : decode cX8_takeNumber 44 = .ok (.istore_n 3, 1) := by decide +kernel
theorem dX8_takeNumber_45 : decode cX8_takeNumber 45 = .ok (.aload_n 0, 1) := by decide +kernel
theorem dX8_takeNumber_46 : decode cX8_takeNumber 46 = .ok (.invokevirtual 87, 3) := by decide +kernel
theorem dX8_takeNumber_49 : decode cX8_takeNumber 49 = .ok (.iload_n 3, 1) := by decide +kernel
theorem dX8_takeNumber_50 : decode cX8_takeNumber 50 = .ok (.ireturn, 1) := by decide +kernel
theorem dX8_takeNumberBehind_0 : decode cX8_takeNumberBehind 0 = .ok (.aload_n 0, 1) := by decide +kernel
theorem dX8_takeNumberBehind_1 : decode cX8_takeNumberBehind 1 = .ok (.getfield 115, 3) := by decide +kernel
theorem dX8_takeNumberBehind_4 : decode cX8_takeNumberBehind 4 = .ok (.iload_n 1, 1) := by decide +kernel
theorem dX8_takeNumberBehind_5 : decode cX8_takeNumberBehind 5 = .ok (.if_icmp .eq 6, 3) := by decide +kernel
theorem dX8_takeNumberBehind_8 : decode cX8_takeNumberBehind 8 = .ok (.iload 4, 2) := by decide +kernel
theorem dX8_takeNumberBehind_10 : decode cX8_takeNumberBehind 10 = .ok (.ireturn, 1) := by decide +kernel
theorem dX8_takeNumberBehind_11 : decode cX8_takeNumberBehind 11 = .ok (.aload_n 0, 1) := by decide +kernel
theorem dX8_takeNumberBehind_12 : decode cX8_takeNumberBehind 12 = .ok (.invokevirtual 87, 3) := by decide +kernel
theorem dX8_takeNumberBehind_15 : decode cX8_takeNumberBehind 15 = .ok (.aload_n 0, 1) := by decide +kernel
theorem dX8_takeNumberBehind_16 : decode cX8_takeNumberBehind 16 = .ok (.iload_n 2, 1) := by decide +kernel
theorem dX8_takeNumberBehind_17 : decode cX8_takeNumberBehind 17 = .ok (.iload_n 3, 1) := by decide +kernel
theorem dX8_takeNumberBehind_18 : decode cX8_takeNumberBehind 18 = .ok (.invokevirtual 131, 3) := by decide +kernel
theorem dX8_takeNumberBehind_21 : decode cX8_takeNumberBehind 21 = .ok (.ireturn, 1) := by decide +kernel
theorem dX8_isName_0 : decode cX8_isName 0 = .ok (.aload_n 0, 1) := by decide +kernel
theorem dX8_isName_1 : decode cX8_isName 1 = .ok (.getfield 109, 3) := by decide +kernel
theorem dX8_isName_4 : decode cX8_isName 4 = .ok (.iconst 1, 1) := by decide +kernel
theorem dX8_isName_5 : decode cX8_isName 5 = .ok (.if_icmp .ne 24, 3) := by decide +kernel
theorem dX8_isName_8 : decode cX8_isName 8 = .ok (.aload_n 0, 1) := by decide +kernel
theorem dX8_isName_9 : decode cX8_isName 9 = .ok (.getfield 118, 3) := by decide +kernel
theorem dX8_isName_12 : decode cX8_isName 12 = .ok (.lconst 0, 1) := by decide +kernel
theorem dX8_isName_13 : decode cX8_isName 13 = .ok (.lcmp, 1) := by decide +kernel
theorem dX8_isName_14 : decode cX8_isName 14 = .ok (.ifCond .eq 15, 3) := by decide +kernel
theorem dX8_isName_17 : decode cX8_isName 17 = .ok (.aload_n 0, 1) := by decide +kernel
theorem dX8_isName_18 : decode cX8_isName 18 = .ok (.getfield 115, 3) := by decide +kernel
theorem dX8_isName_21 : decode cX8_isName 21 = .ok (.iconst (-1), 1) := by decide +kernel
theorem dX8_isName_22 : decode cX8_isName 22 = .ok (.if_icmp .ne 7, 3) := by decide +kernel
theorem dX8_isName_25 : decode cX8_isName 25 = .ok (.iconst 1, 1) := by decide +kernel
theorem dX8_isName_26 : decode cX8_isName 26 = .ok (.goto 4, 3) := by decide +kernel
theorem dX8_isName_29 : decode cX8_isName 29 = .ok (.iconst 0, 1) := by decide +kernel
theorem dX8_isName_30 : decode cX8_isName 30 = .ok (.ireturn, 1) := by decide +kernel
theorem dX8_takeNewName_0 : decode cX8_takeNewName 0 = .ok (.aload_n 0, 1) := by decide +kernel
theorem dX8_takeNewName_1 : decode cX8_takeNewName 1 = .ok (.invokevirtual 134, 3) := by decide +kernel
theorem dX8_takeNewName_4 : decode cX8_takeNewName 4 = .ok (.ifCond .ne 11, 3) := by decide +kernel
theorem dX8_takeNewName_7 : decode cX8_takeNewName 7 = .ok (.aload_n 0, 1) := by decide +kernel
theorem dX8_takeNewName_8 : decode cX8_takeNewName 8 = .ok (.iconst 2, 1) := by decide +kernel
theorem dX8_takeNewName_9 : decode cX8_takeNewName 9 = .ok (.invokevirtual 128, 3) := by decide +kernel
theorem dX8_takeNewName_12 : decode cX8_takeNewName 12 = .ok (.pop, 1) := by decide +kernel
theorem dX8_takeNewName_13 : decode cX8_takeNewName 13 = .ok (.lconst 0, 1) := by decide +kernel
theorem dX8_takeNewName_14 : decode cX8_takeNewName 14 = .ok (.lreturn, 1) := by decide +kernel
theorem dX8_takeNewName_15 : decode cX8_takeNewName 15 = .ok (.aload_n 1, 1) := by decide +kernel
theorem dX8_takeNewName_16 : decode cX8_takeNewName 16 = .ok (.aload_n 0, 1) := by decide +kernel
theorem dX8_takeNewName_17 : decode cX8_takeNewName 17 = .ok (.getfield 118, 3) := by decide +kernel
theorem dX8_takeNewName_20 : decode cX8_takeNewName 20 = .ok (.invokevirtual 138, 3) := by decide +kernel
theorem dX8_takeNewName_23 : decode cX8_takeNewName 23 = .ok (.ifCond .eq 11, 3) := by decide +kernel
theorem dX8_takeNewName_26 : decode cX8_takeNewName 26 = .ok (.aload_n 0, 1) := by decide +kernel
theorem dX8_takeNewName_27 : decode cX8_takeNewName 27 = .ok (.iconst 3, 1) := by decide +kernel
theorem dX8_takeNewName_28 : decode cX8_takeNewName 28 = .ok (.invokevirtual 128, 3) := by decide +kernel
theorem dX8_takeNewName_31 : decode cX8_takeNewName 31 = .ok (.pop, 1) := by decide +kernel
theorem dX8_takeNewName_32 : decode cX8_takeNewName 32 = .ok (.lconst 0, 1) := by decide +kernel
theorem dX8_takeNewName_33 : decode cX8_takeNewName 33 = .ok (.lreturn, 1) := by decide +kernel
theorem dX8_takeNewName_34 : decode cX8_takeNewName 34 = .ok (.aload_n 0, 1) := by decide +kernel
theorem dX8_takeNewName_35 : decode cX8_takeNewName 35 = .ok (.getfield 118, 3) := by decide +kernel
theorem dX8_takeNewName_38 : decode cX8_takeNewName 38 = .ok (.lstore_n 2, 1) := by decide +kernel
theorem dX8_takeNewName_39 : decode cX8_takeNewName 39 = .ok (.aload_n 0, 1) := by decide +kernel
theorem dX8_takeNewName_40 : decode cX8_takeNewName 40 = .ok (.invokevirtual 87, 3) := by decide +kernel
theorem dX8_takeNewName_43 : decode cX8_takeNewName 43 = .ok (.lload_n 2, 1) := by decide +kernel
theorem dX8_takeNewName_44 : decode cX8_takeNewName 44 = .ok (.lreturn, 1) := by decide +kernel
theorem dX8_takeRoom_0 : decode cX8_takeRoom 0 = .ok (.aload_n 0, 1) := by decide +kernel
theorem dX8_takeRoom_1 : decode cX8_takeRoom 1 = .ok (.aload_n 1, 1) := by decide +kernel
theorem dX8_takeRoom_2 : decode cX8_takeRoom 2 = .ok (.getfield 144, 3) := by decide +kernel
theorem dX8_takeRoom_5 : decode cX8_takeRoom 5 = .ok (.aload_n 0, 1) := by decide +kernel
theorem dX8_takeRoom_6 : decode cX8_takeRoom 6 = .ok (.getfield 118, 3) := by decide +kernel
theorem dX8_takeRoom_9 : decode cX8_takeRoom 9 = .ok (.invokevirtual 148, 3) := by decide +kernel
theorem dX8_takeRoom_12 : decode cX8_takeRoom 12 = .ok (.invokevirtual 154, 3) := by decide +kernel
theorem dX8_takeRoom_15 : decode cX8_takeRoom 15 = .ok (.ireturn, 1) := by decide +kernel
theorem dX8_takeDoor_0 : decode cX8_takeDoor 0 = .ok (.aload_n 0, 1) := by decide +kernel
theorem dX8_takeDoor_1 : decode cX8_takeDoor 1 = .ok (.aload_n 1, 1) := by decide +kernel
theorem dX8_takeDoor_2 : decode cX8_takeDoor 2 = .ok (.getfield 158, 3) := by decide +kernel
theorem dX8_takeDoor_5 : decode cX8_takeDoor 5 = .ok (.aload_n 0, 1) := by decide +kernel
theorem dX8_takeDoor_6 : decode cX8_takeDoor 6 = .ok (.getfield 118, 3) := by decide +kernel
theorem dX8_takeDoor_9 : decode cX8_takeDoor 9 = .ok (.invokevirtual 162, 3) := by decide +kernel
theorem dX8_takeDoor_12 : decode cX8_takeDoor 12 = .ok (.invokevirtual 154, 3) := by decide +kernel
theorem dX8_takeDoor_15 : decode cX8_takeDoor 15 = .ok (.ireturn, 1) := by decide +kernel
theorem dX8_takeThing_0 : decode cX8_takeThing 0 = .ok (.aload_n 0, 1) := by decide +kernel
theorem dX8_takeThing_1 : decode cX8_takeThing 1 = .ok (.invokevirtual 134, 3) := by decide +kernel
theorem dX8_takeThing_4 : decode cX8_takeThing 4 = .ok (.ifCond .ne 11, 3) := by decide +kernel
theorem dX8_takeThing_7 : decode cX8_takeThing 7 = .ok (.aload_n 0, 1) := by decide +kernel
theorem dX8_takeThing_8 : decode cX8_takeThing 8 = .ok (.iconst 2, 1) := by decide +kernel
theorem dX8_takeThing_9 : decode cX8_takeThing 9 = .ok (.invokevirtual 128, 3) := by decide +kernel
theorem dX8_takeThing_12 : decode cX8_takeThing 12 = .ok (.pop, 1) := by decide +kernel
theorem dX8_takeThing_13 : decode cX8_takeThing 13 = .ok (.iconst (-1), 1) := by decide +kernel
theorem dX8_takeThing_14 : decode cX8_takeThing 14 = .ok (.ireturn, 1) := by decide +kernel
theorem dX8_takeThing_15 : decode cX8_takeThing 15 = .ok (.iload_n 1, 1) := by decide +kernel
theorem dX8_takeThing_16 : decode cX8_takeThing 16 = .ok (.iconst (-1), 1) := by decide +kernel
theorem dX8_takeThing_17 : decode cX8_takeThing 17 = .ok (.if_icmp .ne 11, 3) := by decide +kernel
theorem dX8_takeThing_20 : decode cX8_takeThing 20 = .ok (.aload_n 0, 1) := by decide +kernel
theorem dX8_takeThing_21 : decode cX8_takeThing 21 = .ok (.iconst 3, 1) := by decide +kernel
theorem dX8_takeThing_22 : decode cX8_takeThing 22 = .ok (.invokevirtual 128, 3) := by decide +kernel
theorem dX8_takeThing_25 : decode cX8_takeThing 25 = .ok (.pop, 1) := by decide +kernel
theorem dX8_takeThing_26 : decode cX8_takeThing 26 = .ok (.iconst (-1), 1) := by decide +kernel
theorem dX8_takeThing_27 : decode cX8_takeThing 27 = .ok (.ireturn, 1) := by decide +kernel
theorem dX8_takeThing_28 : decode cX8_takeThing 28 = .ok (.aload_n 0, 1) := by decide +kernel
theorem dX8_takeThing_29 : decode cX8_takeThing 29 = .ok (.invokevirtual 87, 3) := by decide +kernel
theorem dX8_takeThing_32 : decode cX8_takeThing 32 = .ok (.iload_n 1, 1) := by decide +kernel
theorem dX8_takeThing_33 : decode cX8_takeThing 33 = .ok (.ireturn, 1) := by decide +kernel
theorem dX8_takeEnd_0 : decode cX8_takeEnd 0 = .ok (.aload_n 0, 1) := by decide +kernel
theorem dX8_takeEnd_1 : decode cX8_takeEnd 1 = .ok (.getfield 115, 3) := by decide +kernel
theorem dX8_takeEnd_4 : decode cX8_takeEnd 4 = .ok (.bipush 16, 2) := by decide +kernel
theorem dX8_takeEnd_6 : decode cX8_takeEnd 6 = .ok (.if_icmp .ne 7, 3) := by decide +kernel
theorem dX8_takeEnd_9 : decode cX8_takeEnd 9 = .ok (.iconst 1, 1) := by decide +kernel
theorem dX8_takeEnd_10 : decode cX8_takeEnd 10 = .ok (.goto 4, 3) := by decide +kernel
theorem dX8_takeEnd_13 : decode cX8_takeEnd 13 = .ok (.iconst 0, 1) := by decide +kernel
theorem dX8_takeEnd_14 : decode cX8_takeEnd 14 = .ok (.istore_n 3, 1) := by decide +kernel
theorem dX8_takeEnd_15 : decode cX8_takeEnd 15 = .ok (.iload_n 3, 1) := by decide +kernel
theorem dX8_takeEnd_16 : decode cX8_takeEnd 16 = .ok (.ifCond .ne 18, 3) := by decide +kernel
theorem dX8_takeEnd_19 : decode cX8_takeEnd 19 = .ok (.aload_n 0, 1) := by decide +kernel
theorem dX8_takeEnd_20 : decode cX8_takeEnd 20 = .ok (.invokevirtual 134, 3) := by decide +kernel
theorem dX8_takeEnd_23 : decode cX8_takeEnd 23 = .ok (.ifCond .ne 11, 3) := by decide +kernel
theorem dX8_takeEnd_26 : decode cX8_takeEnd 26 = .ok (.aload_n 0, 1) := by decide +kernel
theorem dX8_takeEnd_27 : decode cX8_takeEnd 27 = .ok (.iconst 2, 1) := by decide +kernel
theorem dX8_takeEnd_28 : decode cX8_takeEnd 28 = .ok (.invokevirtual 128, 3) := by decide +kernel
theorem dX8_takeEnd_31 : decode cX8_takeEnd 31 = .ok (.pop, 1) := by decide +kernel
theorem dX8_takeEnd_32 : decode cX8_takeEnd 32 = .ok (.iconst (-1), 1) := by decide +kernel
theorem dX8_takeEnd_33 : decode cX8_takeEnd 33 = .ok (.ireturn, 1) := by decide +kernel
theorem dX8_takeEnd_34 : decode cX8_takeEnd 34 = .ok (.iload_n 3, 1) := by decide +kernel
theorem dX8_takeEnd_35 : decode cX8_takeEnd 35 = .ok (.ifCond .eq 8, 3) := by decide +kernel
theorem dX8_takeEnd_38 : decode cX8_takeEnd 38 = .ok (.bipush 7, 2) := by decide +kernel
theorem dX8_takeEnd_40 : decode cX8_takeEnd 40 = .ok (.goto 14, 3) := by decide +kernel
theorem dX8_takeEnd_43 : decode cX8_takeEnd 43 = .ok (.aload_n 1, 1) := by decide +kernel
theorem dX8_takeEnd_44 : decode cX8_takeEnd 44 = .ok (.getfield 144, 3) := by decide +kernel
theorem dX8_takeEnd_47 : decode cX8_takeEnd 47 = .ok (.aload_n 0, 1) := by decide +kernel
theorem dX8_takeEnd_48 : decode cX8_takeEnd 48 = .ok (.getfield 118, 3) := by decide +kernel
theorem dX8_takeEnd_51 : decode cX8_takeEnd 51 = .ok (.invokevirtual 148, 3) := by decide +kernel
theorem dX8_takeEnd_54 : decode cX8_takeEnd 54 = .ok (.istore 4, 2) := by decide +kernel
theorem dX8_takeEnd_56 : decode cX8_takeEnd 56 = .ok (.iload 4, 2) := by decide +kernel
theorem dX8_takeEnd_58 : decode cX8_takeEnd 58 = .ok (.iconst (-1), 1) := by decide +kernel
theorem dX8_takeEnd_59 : decode cX8_takeEnd 59 = .ok (.if_icmp .ne 11, 3) := by decide +kernel
theorem dX8_takeEnd_62 : decode cX8_takeEnd 62 = .ok (.aload_n 0, 1) := by decide +kernel
theorem dX8_takeEnd_63 : decode cX8_takeEnd 63 = .ok (.iconst 3, 1) := by decide +kernel
theorem dX8_takeEnd_64 : decode cX8_takeEnd 64 = .ok (.invokevirtual 128, 3) := by decide +kernel
theorem dX8_takeEnd_67 : decode cX8_takeEnd 67 = .ok (.pop, 1) := by decide +kernel
theorem dX8_takeEnd_68 : decode cX8_takeEnd 68 = .ok (.iconst (-1), 1) := by decide +kernel
theorem dX8_takeEnd_69 : decode cX8_takeEnd 69 = .ok (.ireturn, 1) := by decide +kernel
theorem dX8_takeEnd_70 : decode cX8_takeEnd 70 = .ok (.iload 4, 2) := by decide +kernel
theorem dX8_takeEnd_72 : decode cX8_takeEnd 72 = .ok (.iload_n 2, 1) := by decide +kernel
theorem dX8_takeEnd_73 : decode cX8_takeEnd 73 = .ok (.if_icmp .ne 11, 3) := by decide +kernel
theorem dX8_takeEnd_76 : decode cX8_takeEnd 76 = .ok (.aload_n 0, 1) := by decide +kernel
theorem dX8_takeEnd_77 : decode cX8_takeEnd 77 = .ok (.iconst 5, 1) := by decide +kernel
theorem dX8_takeEnd_78 : decode cX8_takeEnd 78 = .ok (.invokevirtual 128, 3) := by decide +kernel
theorem dX8_takeEnd_81 : decode cX8_takeEnd 81 = .ok (.pop, 1) := by decide +kernel
theorem dX8_takeEnd_82 : decode cX8_takeEnd 82 = .ok (.iconst (-1), 1) := by decide +kernel
theorem dX8_takeEnd_83 : decode cX8_takeEnd 83 = .ok (.ireturn, 1) := by decide +kernel
theorem dX8_takeEnd_84 : decode cX8_takeEnd 84 = .ok (.aload_n 0, 1) := by decide +kernel
theorem dX8_takeEnd_85 : decode cX8_takeEnd 85 = .ok (.invokevirtual 87, 3) := by decide +kernel
theorem dX8_takeEnd_88 : decode cX8_takeEnd 88 = .ok (.iload 4, 2) := by decide +kernel
theorem dX8_takeEnd_90 : decode cX8_takeEnd 90 = .ok (.ireturn, 1) := by decide +kernel
theorem dX9_init_0 : decode cX9_init 0 = .ok (.aload_n 0, 1) := by decide +kernel
theorem dX9_init_1 : decode cX9_init 1 = .ok (.invokespecial 3, 3) := by decide +kernel
theorem dX9_init_4 : decode cX9_init 4 = .ok (.aload_n 0, 1) := by decide +kernel
theorem dX9_init_5 : decode cX9_init 5 = .ok (.bipush 60, 2) := by decide +kernel
theorem dX9_init_7 : decode cX9_init 7 = .ok (.newarray .long, 2) := by decide +kernel
theorem dX9_init_9 : decode cX9_init 9 = .ok (.putfield 9, 3) := by decide +kernel
theorem dX9_init_12 : decode cX9_init 12 = .ok (.aload_n 0, 1) := by decide +kernel
theorem dX9_init_13 : decode cX9_init 13 = .ok (.iconst (-1), 1) := by decide +kernel
theorem dX9_init_14 : decode cX9_init 14 = .ok (.putfield 15, 3) := by decide +kernel
theorem dX9_init_17 : decode cX9_init 17 = .ok (.return_, 1) := by decide +kernel
theorem dX9_lay_0 : decode cX9_lay 0 = .ok (.aload_n 0, 1) := by decide +kernel
theorem dX9_lay_1 : decode cX9_lay 1 = .ok (.iload_n 1, 1) := by decide +kernel
theorem dX9_lay_2 : decode cX9_lay 2 = .ok (.putfield 19, 3) := by decide +kernel
theorem dX9_lay_5 : decode cX9_lay 5 = .ok (.aload_n 0, 1) := by decide +kernel
theorem dX9_lay_6 : decode cX9_lay 6 = .ok (.iload_n 2, 1) := by decide +kernel
theorem dX9_lay_7 : decode cX9_lay 7 = .ok (.putfield 15, 3) := by decide +kernel
theorem dX9_lay_10 : decode cX9_lay 10 = .ok (.iconst 0, 1) := by decide +kernel
theorem dX9_lay_11 : decode cX9_lay 11 = .ok (.istore_n 3, 1) := by decide +kernel
theorem dX9_lay_12 : decode cX9_lay 12 = .ok (.iload_n 3, 1) := by decide +kernel
theorem dX9_lay_13 : decode cX9_lay 13 = .ok (.bipush 60, 2) := by decide +kernel
theorem dX9_lay_15 : decode cX9_lay 15 = .ok (.if_icmp .ge 16, 3) := by decide +kernel
theorem dX9_lay_18 : decode cX9_lay 18 = .ok (.aload_n 0, 1) := by decide +kernel
theorem dX9_lay_19 : decode cX9_lay 19 = .ok (.getfield 9, 3) := by decide +kernel
theorem dX9_lay_22 : decode cX9_lay 22 = .ok (.iload_n 3, 1) := by decide +kernel
theorem dX9_lay_23 : decode cX9_lay 23 = .ok (.lconst 0, 1) := by decide +kernel
theorem dX9_lay_24 : decode cX9_lay 24 = .ok (.lastore, 1) := by decide +kernel
theorem dX9_lay_25 : decode cX9_lay 25 = .ok (.iinc 3 1, 3) := by decide +kernel
theorem dX9_lay_28 : decode cX9_lay 28 = .ok (.goto (-16), 3) := by decide +kernel
theorem dX9_lay_31 : decode cX9_lay 31 = .ok (.return_, 1) := by decide +kernel
theorem dX9_isMissing_0 : decode cX9_isMissing 0 = .ok (.aload_n 0, 1) := by decide +kernel
theorem dX9_isMissing_1 : decode cX9_isMissing 1 = .ok (.getfield 15, 3) := by decide +kernel
theorem dX9_isMissing_4 : decode cX9_isMissing 4 = .ok (.ifCond .ge 7, 3) := by decide +kernel
theorem dX9_isMissing_7 : decode cX9_isMissing 7 = .ok (.iconst 1, 1) := by decide +kernel
theorem dX9_isMissing_8 : decode cX9_isMissing 8 = .ok (.goto 4, 3) := by decide +kernel
theorem dX9_isMissing_11 : decode cX9_isMissing 11 = .ok (.iconst 0, 1) := by decide +kernel
theorem dX9_isMissing_12 : decode cX9_isMissing 12 = .ok (.ireturn, 1) := by decide +kernel
theorem dX9_has_0 : decode cX9_has 0 = .ok (.iload_n 1, 1) := by decide +kernel
theorem dX9_has_1 : decode cX9_has 1 = .ok (.ifCond .lt 15, 3) := by decide +kernel
theorem dX9_has_4 : decode cX9_has 4 = .ok (.iload_n 1, 1) := by decide +kernel
theorem dX9_has_5 : decode cX9_has 5 = .ok (.aload_n 0, 1) := by decide +kernel
theorem dX9_has_6 : decode cX9_has 6 = .ok (.getfield 15, 3) := by decide +kernel
theorem dX9_has_9 : decode cX9_has 9 = .ok (.if_icmp .ge 7, 3) := by decide +kernel
theorem dX9_has_12 : decode cX9_has 12 = .ok (.iconst 1, 1) := by decide +kernel
theorem dX9_has_13 : decode cX9_has 13 = .ok (.goto 4, 3) := by decide +kernel
theorem dX9_has_16 : decode cX9_has 16 = .ok (.iconst 0, 1) := by decide +kernel
theorem dX9_has_17 : decode cX9_has 17 = .ok (.ireturn, 1) := by decide +kernel
theorem dX9_hasRow_0 : decode cX9_hasRow 0 = .ok (.iload_n 1, 1) := by decide +kernel
theorem dX9_hasRow_1 : decode cX9_hasRow 1 = .ok (.ifCond .lt 29, 3) := by decide +kernel
theorem dX9_hasRow_4 : decode cX9_hasRow 4 = .ok (.iload_n 2, 1) := by decide +kernel
theorem dX9_hasRow_5 : decode cX9_hasRow 5 = .ok (.ifCond .lt 25, 3) := by decide +kernel
theorem dX9_hasRow_8 : decode cX9_hasRow 8 = .ok (.iload_n 1, 1) := by decide +kernel
theorem dX9_hasRow_9 : decode cX9_hasRow 9 = .ok (.aload_n 0, 1) := by decide +kernel
theorem dX9_hasRow_10 : decode cX9_hasRow 10 = .ok (.getfield 15, 3) := by decide +kernel
theorem dX9_hasRow_13 : decode cX9_hasRow 13 = .ok (.if_icmp .gt 17, 3) := by decide +kernel
theorem dX9_hasRow_16 : decode cX9_hasRow 16 = .ok (.iload_n 2, 1) := by decide +kernel
theorem dX9_hasRow_17 : decode cX9_hasRow 17 = .ok (.aload_n 0, 1) := by decide +kernel
theorem dX9_hasRow_18 : decode cX9_hasRow 18 = .ok (.getfield 15, 3) := by decide +kernel
theorem dX9_hasRow_21 : decode cX9_hasRow 21 = .ok (.iload_n 1, 1) := by decide +kernel
theorem dX9_hasRow_22 : decode cX9_hasRow 22 = .ok (.isub, 1) := by decide +kernel
theorem dX9_hasRow_23 : decode cX9_hasRow 23 = .ok (.if_icmp .gt 7, 3) := by decide +kernel
theorem dX9_hasRow_26 : decode cX9_hasRow 26 = .ok (.iconst 1, 1) := by decide +kernel
theorem dX9_hasRow_27 : decode cX9_hasRow 27 = .ok (.goto 4, 3) := by decide +kernel
theorem dX9_hasRow_30 : decode cX9_hasRow 30 = .ok (.iconst 0, 1) := by decide +kernel
theorem dX9_hasRow_31 : decode cX9_hasRow 31 = .ok (.ireturn, 1) := by decide +kernel
theorem dX9_at_0 : decode cX9_at 0 = .ok (.aload_n 0, 1) := by decide +kernel
theorem dX9_at_1 : decode cX9_at 1 = .ok (.iload_n 1, 1) := by decide +kernel
theorem dX9_at_2 : decode cX9_at 2 = .ok (.invokevirtual 22, 3) := by decide +kernel
theorem dX9_at_5 : decode cX9_at 5 = .ok (.ifCond .eq 12, 3) := by decide +kernel
theorem dX9_at_8 : decode cX9_at 8 = .ok (.aload_n 0, 1) := by decide +kernel
theorem dX9_at_9 : decode cX9_at 9 = .ok (.getfield 9, 3) := by decide +kernel
theorem dX9_at_12 : decode cX9_at 12 = .ok (.iload_n 1, 1) := by decide +kernel
theorem dX9_at_13 : decode cX9_at 13 = .ok (.laload, 1) := by decide +kernel
theorem dX9_at_14 : decode cX9_at 14 = .ok (.goto 4, 3) := by decide +kernel
theorem dX9_at_17 : decode cX9_at 17 = .ok (.lconst 0, 1) := by decide +kernel
theorem dX9_at_18 : decode cX9_at 18 = .ok (.lreturn, 1) := by decide +kernel
theorem dX9_put_0 : decode cX9_put 0 = .ok (.aload_n 0, 1) := by decide +kernel
theorem dX9_put_1 : decode cX9_put 1 = .ok (.iload_n 1, 1) := by decide +kernel
theorem dX9_put_2 : decode cX9_put 2 = .ok (.invokevirtual 22, 3) := by decide +kernel
theorem dX9_put_5 : decode cX9_put 5 = .ok (.ifCond .eq 14, 3) := by decide +kernel
theorem dX9_put_8 : decode cX9_put 8 = .ok (.aload_n 0, 1) := by decide +kernel
theorem dX9_put_9 : decode cX9_put 9 = .ok (.getfield 9, 3) := by decide +kernel
theorem dX9_put_12 : decode cX9_put 12 = .ok (.iload_n 1, 1) := by decide +kernel
theorem dX9_put_13 : decode cX9_put 13 = .ok (.aload_n 0, 1) := by decide +kernel
theorem dX9_put_14 : decode cX9_put 14 = .ok (.lload_n 2, 1) := by decide +kernel
theorem dX9_put_15 : decode cX9_put 15 = .ok (.invokevirtual 26, 3) := by decide +kernel
theorem dX9_put_18 : decode cX9_put 18 = .ok (.lastore, 1) := by decide +kernel
theorem dX9_put_19 : decode cX9_put 19 = .ok (.return_, 1) := by decide +kernel
theorem dX9_cut_0 : decode cX9_cut 0 = .ok (.aload_n 0, 1) := by decide +kernel
theorem dX9_cut_1 : decode cX9_cut 1 = .ok (.getfield 19, 3) := by decide +kernel
theorem dX9_cut_4 : decode cX9_cut 4 = .ok (.tableswitch 42 0 2 #[28, 33, 38], 28) := by decide +kernel
theorem dX9_cut_32 : decode cX9_cut 32 = .ok (.lload_n 1, 1) := by decide +kernel
theorem dX9_cut_33 : decode cX9_cut 33 = .ok (.l2i, 1) := by decide +kernel
theorem dX9_cut_34 : decode cX9_cut 34 = .ok (.i2b, 1) := by decide +kernel
theorem dX9_cut_35 : decode cX9_cut 35 = .ok (.i2l, 1) := by decide +kernel
theorem dX9_cut_36 : decode cX9_cut 36 = .ok (.lreturn, 1) := by decide +kernel
theorem dX9_cut_37 : decode cX9_cut 37 = .ok (.lload_n 1, 1) := by decide +kernel
theorem dX9_cut_38 : decode cX9_cut 38 = .ok (.l2i, 1) := by decide +kernel
theorem dX9_cut_39 : decode cX9_cut 39 = .ok (.i2s, 1) := by decide +kernel
theorem dX9_cut_40 : decode cX9_cut 40 = .ok (.i2l, 1) := by decide +kernel
theorem dX9_cut_41 : decode cX9_cut 41 = .ok (.lreturn, 1) := by decide +kernel
theorem dX9_cut_42 : decode cX9_cut 42 = .ok (.lload_n 1, 1) := by decide +kernel
theorem dX9_cut_43 : decode cX9_cut 43 = .ok (.l2i, 1) := by decide +kernel
theorem dX9_cut_44 : decode cX9_cut 44 = .ok (.i2l, 1) := by decide +kernel
theorem dX9_cut_45 : decode cX9_cut 45 = .ok (.lreturn, 1) := by decide +kernel
theorem dX9_cut_46 : decode cX9_cut 46 = .ok (.lload_n 1, 1) := by decide +kernel
theorem dX9_cut_47 : decode cX9_cut 47 = .ok (.lreturn, 1) := by decide +kernel
theorem dX9_startsWith_0 : decode cX9_startsWith 0 = .ok (.iload_n 2, 1) := by decide +kernel
theorem dX9_startsWith_1 : decode cX9_startsWith 1 = .ok (.aload_n 0, 1) := by decide +kernel
theorem dX9_startsWith_2 : decode cX9_startsWith 2 = .ok (.getfield 15, 3) := by decide +kernel
theorem dX9_startsWith_5 : decode cX9_startsWith 5 = .ok (.if_icmp .gt 9, 3) := by decide +kernel
theorem dX9_startsWith_8 : decode cX9_startsWith 8 = .ok (.iload_n 2, 1) := by decide +kernel
theorem dX9_startsWith_9 : decode cX9_startsWith 9 = .ok (.aload_n 1, 1) := by decide +kernel
theorem dX9_startsWith_10 : decode cX9_startsWith 10 = .ok (.arraylength, 1) := by decide +kernel
theorem dX9_startsWith_11 : decode cX9_startsWith 11 = .ok (.if_icmp .le 5, 3) := by decide +kernel
theorem dX9_startsWith_14 : decode cX9_startsWith 14 = .ok (.iconst 0, 1) := by decide +kernel
theorem dX9_startsWith_15 : decode cX9_startsWith 15 = .ok (.ireturn, 1) := by decide +kernel
theorem dX9_startsWith_16 : decode cX9_startsWith 16 = .ok (.iconst 0, 1) := by decide +kernel
theorem dX9_startsWith_17 : decode cX9_startsWith 17 = .ok (.istore_n 3, 1) := by decide +kernel
theorem dX9_startsWith_18 : decode cX9_startsWith 18 = .ok (.iload_n 3, 1) := by decide +kernel
theorem dX9_startsWith_19 : decode cX9_startsWith 19 = .ok (.iload_n 2, 1) := by decide +kernel
theorem dX9_startsWith_20 : decode cX9_startsWith 20 = .ok (.if_icmp .ge 25, 3) := by decide +kernel
theorem dX9_startsWith_23 : decode cX9_startsWith 23 = .ok (.aload_n 0, 1) := by decide +kernel
theorem dX9_startsWith_24 : decode cX9_startsWith 24 = .ok (.getfield 9, 3) := by decide +kernel
theorem dX9_startsWith_27 : decode cX9_startsWith 27 = .ok (.iload_n 3, 1) := by decide +kernel
theorem dX9_startsWith_28 : decode cX9_startsWith 28 = .ok (.laload, 1) := by decide +kernel
theorem dX9_startsWith_29 : decode cX9_startsWith 29 = .ok (.aload_n 1, 1) := by decide +kernel
theorem dX9_startsWith_30 : decode cX9_startsWith 30 = .ok (.iload_n 3, 1) := by decide +kernel
theorem dX9_startsWith_31 : decode cX9_startsWith 31 = .ok (.iaload, 1) := by decide +kernel
theorem dX9_startsWith_32 : decode cX9_startsWith 32 = .ok (.i2l, 1) := by decide +kernel
theorem dX9_startsWith_33 : decode cX9_startsWith 33 = .ok (.lcmp, 1) := by decide +kernel
theorem dX9_startsWith_34 : decode cX9_startsWith 34 = .ok (.ifCond .eq 5, 3) := by decide +kernel
theorem dX9_startsWith_37 : decode cX9_startsWith 37 = .ok (.iconst 0, 1) := by decide +kernel
theorem dX9_startsWith_38 : decode cX9_startsWith 38 = .ok (.ireturn, 1) := by decide +kernel
theorem dX9_startsWith_39 : decode cX9_startsWith 39 = .ok (.iinc 3 1, 3) := by decide +kernel
theorem dX9_startsWith_42 : decode cX9_startsWith 42 = .ok (.goto (-24), 3) := by decide +kernel
theorem dX9_startsWith_45 : decode cX9_startsWith 45 = .ok (.iconst 1, 1) := by decide +kernel
theorem dX9_startsWith_46 : decode cX9_startsWith 46 = .ok (.ireturn, 1) := by decide +kernel
theorem dJ6_numberOfTrailingZeros_0f7a4_0 : decode cJ6_numberOfTrailingZeros_0f7a4 0 = .ok (.iload_n 0, 1) := by decide +kernel
theorem dJ6_numberOfTrailingZeros_0f7a4_1 : decode cJ6_numberOfTrailingZeros_0f7a4 1 = .ok (.iconst (-1), 1) := by decide +kernel
theorem dJ6_numberOfTrailingZeros_0f7a4_2 : decode cJ6_numberOfTrailingZeros_0f7a4 2 = .ok (.ixor, 1) := by decide +kernel
theorem dJ6_numberOfTrailingZeros_0f7a4_3 : decode cJ6_numberOfTrailingZeros_0f7a4 3 = .ok (.iload_n 0, 1) := by decide +kernel
theorem dJ6_numberOfTrailingZeros_0f7a4_4 : decode cJ6_numberOfTrailingZeros_0f7a4 4 = .ok (.iconst 1, 1) := by decide +kernel
theorem dJ6_numberOfTrailingZeros_0f7a4_5 : decode cJ6_numberOfTrailingZeros_0f7a4 5 = .ok (.isub, 1) := by decide +kernel
theorem dJ6_numberOfTrailingZeros_0f7a4_6 : decode cJ6_numberOfTrailingZeros_0f7a4 6 = .ok (.iand, 1) := by decide +kernel
theorem dJ6_numberOfTrailingZeros_0f7a4_7 : decode cJ6_numberOfTrailingZeros_0f7a4 7 = .ok (.istore_n 0, 1) := by decide +kernel
theorem dJ6_numberOfTrailingZeros_0f7a4_8 : decode cJ6_numberOfTrailingZeros_0f7a4 8 = .ok (.iload_n 0, 1) := by decide +kernel
theorem dJ6_numberOfTrailingZeros_0f7a4_9 : decode cJ6_numberOfTrailingZeros_0f7a4 9 = .ok (.ifCond .gt 8, 3) := by decide +kernel
theorem dJ6_numberOfTrailingZeros_0f7a4_12 : decode cJ6_numberOfTrailingZeros_0f7a4 12 = .ok (.iload_n 0, 1) := by decide +kernel
theorem dJ6_numberOfTrailingZeros_0f7a4_13 : decode cJ6_numberOfTrailingZeros_0f7a4 13 = .ok (.bipush 32, 2) := by decide +kernel
theorem dJ6_numberOfTrailingZeros_0f7a4_15 : decode cJ6_numberOfTrailingZeros_0f7a4 15 = .ok (.iand, 1) := by decide +kernel
theorem dJ6_numberOfTrailingZeros_0f7a4_16 : decode cJ6_numberOfTrailingZeros_0f7a4 16 = .ok (.ireturn, 1) := by decide +kernel
theorem dJ6_numberOfTrailingZeros_0f7a4_17 : decode cJ6_numberOfTrailingZeros_0f7a4 17 = .ok (.iconst 1, 1) := by decide +kernel
theorem dJ6_numberOfTrailingZeros_0f7a4_18 : decode cJ6_numberOfTrailingZeros_0f7a4 18 = .ok (.istore_n 1, 1) := by decide +kernel
theorem dJ6_numberOfTrailingZeros_0f7a4_19 : decode cJ6_numberOfTrailingZeros_0f7a4 19 = .ok (.iload_n 0, 1) := by decide +kernel
theorem dJ6_numberOfTrailingZeros_0f7a4_20 : decode cJ6_numberOfTrailingZeros_0f7a4 20 = .ok (.ldc_w 264, 3) := by decide +kernel
theorem dJ6_numberOfTrailingZeros_0f7a4_23 : decode cJ6_numberOfTrailingZeros_0f7a4 23 = .ok (.if_icmp .le 11, 3) := by decide +kernel
theorem dJ6_numberOfTrailingZeros_0f7a4_26 : decode cJ6_numberOfTrailingZeros_0f7a4 26 = .ok (.iinc 1 16, 3) := by decide +kernel
theorem dJ6_numberOfTrailingZeros_0f7a4_29 : decode cJ6_numberOfTrailingZeros_0f7a4 29 = .ok (.iload_n 0, 1) := by decide +kernel
theorem dJ6_numberOfTrailingZeros_0f7a4_30 : decode cJ6_numberOfTrailingZeros_0f7a4 30 = .ok (.bipush 16, 2) := by decide +kernel
theorem dJ6_numberOfTrailingZeros_0f7a4_32 : decode cJ6_numberOfTrailingZeros_0f7a4 32 = .ok (.iushr, 1) := by decide +kernel
theorem dJ6_numberOfTrailingZeros_0f7a4_33 : decode cJ6_numberOfTrailingZeros_0f7a4 33 = .ok (.istore_n 0, 1) := by decide +kernel
theorem dJ6_numberOfTrailingZeros_0f7a4_34 : decode cJ6_numberOfTrailingZeros_0f7a4 34 = .ok (.iload_n 0, 1) := by decide +kernel
theorem dJ6_numberOfTrailingZeros_0f7a4_35 : decode cJ6_numberOfTrailingZeros_0f7a4 35 = .ok (.sipush 256, 3) := by decide +kernel
theorem dJ6_numberOfTrailingZeros_0f7a4_38 : decode cJ6_numberOfTrailingZeros_0f7a4 38 = .ok (.if_icmp .le 11, 3) := by decide +kernel
theorem dJ6_numberOfTrailingZeros_0f7a4_41 : decode cJ6_numberOfTrailingZeros_0f7a4 41 = .ok (.iinc 1 8, 3) := by decide +kernel
theorem dJ6_numberOfTrailingZeros_0f7a4_44 : decode cJ6_numberOfTrailingZeros_0f7a4 44 = .ok (.iload_n 0, 1) := by decide +kernel
theorem dJ6_numberOfTrailingZeros_0f7a4_45 : decode cJ6_numberOfTrailingZeros_0f7a4 45 = .ok (.bipush 8, 2) := by decide +kernel
theorem dJ6_numberOfTrailingZeros_0f7a4_47 : decode cJ6_numberOfTrailingZeros_0f7a4 47 = .ok (.iushr, 1) := by decide +kernel
theorem dJ6_numberOfTrailingZeros_0f7a4_48 : decode cJ6_numberOfTrailingZeros_0f7a4 48 = .ok (.istore_n 0, 1) := by decide +kernel
theorem dJ6_numberOfTrailingZeros_0f7a4_49 : decode cJ6_numberOfTrailingZeros_0f7a4 49 = .ok (.iload_n 0, 1) := by decide +kernel
theorem dJ6_numberOfTrailingZeros_0f7a4_50 : decode cJ6_numberOfTrailingZeros_0f7a4 50 = .ok (.bipush 16, 2) := by decide +kernel
theorem dJ6_numberOfTrailingZeros_0f7a4_52 : decode cJ6_numberOfTrailingZeros_0f7a4 52 = .ok (.if_icmp .le 10, 3) := by decide +kernel
theorem dJ6_numberOfTrailingZeros_0f7a4_55 : decode cJ6_numberOfTrailingZeros_0f7a4 55 = .ok (.iinc 1 4, 3) := by decide +kernel
theorem dJ6_numberOfTrailingZeros_0f7a4_58 : decode cJ6_numberOfTrailingZeros_0f7a4 58 = .ok (.iload_n 0, 1) := by decide +kernel
theorem dJ6_numberOfTrailingZeros_0f7a4_59 : decode cJ6_numberOfTrailingZeros_0f7a4 59 = .ok (.iconst 4, 1) := by decide +kernel
theorem dJ6_numberOfTrailingZeros_0f7a4_60 : decode cJ6_numberOfTrailingZeros_0f7a4 60 = .ok (.iushr, 1) := by decide +kernel
theorem dJ6_numberOfTrailingZeros_0f7a4_61 : decode cJ6_numberOfTrailingZeros_0f7a4 61 = .ok (.istore_n 0, 1) := by decide +kernel
theorem dJ6_numberOfTrailingZeros_0f7a4_62 : decode cJ6_numberOfTrailingZeros_0f7a4 62 = .ok (.iload_n 0, 1) := by decide +kernel
theorem dJ6_numberOfTrailingZeros_0f7a4_63 : decode cJ6_numberOfTrailingZeros_0f7a4 63 = .ok (.iconst 4, 1) := by decide +kernel
theorem dJ6_numberOfTrailingZeros_0f7a4_64 : decode cJ6_numberOfTrailingZeros_0f7a4 64 = .ok (.if_icmp .le 10, 3) := by decide +kernel
theorem dJ6_numberOfTrailingZeros_0f7a4_67 : decode cJ6_numberOfTrailingZeros_0f7a4 67 = .ok (.iinc 1 2, 3) := by decide +kernel
theorem dJ6_numberOfTrailingZeros_0f7a4_70 : decode cJ6_numberOfTrailingZeros_0f7a4 70 = .ok (.iload_n 0, 1) := by decide +kernel
theorem dJ6_numberOfTrailingZeros_0f7a4_71 : decode cJ6_numberOfTrailingZeros_0f7a4 71 = .ok (.iconst 2, 1) := by decide +kernel
theorem dJ6_numberOfTrailingZeros_0f7a4_72 : decode cJ6_numberOfTrailingZeros_0f7a4 72 = .ok (.iushr, 1) := by decide +kernel
theorem dJ6_numberOfTrailingZeros_0f7a4_73 : decode cJ6_numberOfTrailingZeros_0f7a4 73 = .ok (.istore_n 0, 1) := by decide +kernel
theorem dJ6_numberOfTrailingZeros_0f7a4_74 : decode cJ6_numberOfTrailingZeros_0f7a4 74 = .ok (.iload_n 1, 1) := by decide +kernel
theorem dJ6_numberOfTrailingZeros_0f7a4_75 : decode cJ6_numberOfTrailingZeros_0f7a4 75 = .ok (.iload_n 0, 1) := by decide +kernel
theorem dJ6_numberOfTrailingZeros_0f7a4_76 : decode cJ6_numberOfTrailingZeros_0f7a4 76 = .ok (.iconst 1, 1) := by decide +kernel
theorem dJ6_numberOfTrailingZeros_0f7a4_77 : decode cJ6_numberOfTrailingZeros_0f7a4 77 = .ok (.iushr, 1) := by decide +kernel
theorem dJ6_numberOfTrailingZeros_0f7a4_78 : decode cJ6_numberOfTrailingZeros_0f7a4 78 = .ok (.iadd, 1) := by decide +kernel
theorem dJ6_numberOfTrailingZeros_0f7a4_79 : decode cJ6_numberOfTrailingZeros_0f7a4 79 = .ok (.ireturn, 1) := by decide +kernel
theorem dJ6_bitCount_0f7a4_0 : decode cJ6_bitCount_0f7a4 0 = .ok (.iload_n 0, 1) := by decide +kernel
theorem dJ6_bitCount_0f7a4_1 : decode cJ6_bitCount_0f7a4 1 = .ok (.iload_n 0, 1) := by decide +kernel
theorem dJ6_bitCount_0f7a4_2 : decode cJ6_bitCount_0f7a4 2 = .ok (.iconst 1, 1) := by decide +kernel
theorem dJ6_bitCount_0f7a4_3 : decode cJ6_bitCount_0f7a4 3 = .ok (.iushr, 1) := by decide +kernel
theorem dJ6_bitCount_0f7a4_4 : decode cJ6_bitCount_0f7a4 4 = .ok (.ldc_w 265, 3) := by decide +kernel
theorem dJ6_bitCount_0f7a4_7 : decode cJ6_bitCount_0f7a4 7 = .ok (.iand, 1) := by decide +kernel
theorem dJ6_bitCount_0f7a4_8 : decode cJ6_bitCount_0f7a4 8 = .ok (.isub, 1) := by decide +kernel
theorem dJ6_bitCount_0f7a4_9 : decode cJ6_bitCount_0f7a4 9 = .ok (.istore_n 0, 1) := by decide +kernel
theorem dJ6_bitCount_0f7a4_10 : decode cJ6_bitCount_0f7a4 10 = .ok (.iload_n 0, 1) := by decide +kernel
theorem dJ6_bitCount_0f7a4_11 : decode cJ6_bitCount_0f7a4 11 = .ok (.ldc_w 266, 3) := by decide +kernel
theorem dJ6_bitCount_0f7a4_14 : decode cJ6_bitCount_0f7a4 14 = .ok (.iand, 1) := by decide +kernel
theorem dJ6_bitCount_0f7a4_15 : decode cJ6_bitCount_0f7a4 15 = .ok (.iload_n 0, 1) := by decide +kernel
theorem dJ6_bitCount_0f7a4_16 : decode cJ6_bitCount_0f7a4 16 = .ok (.iconst 2, 1) := by decide +kernel
theorem dJ6_bitCount_0f7a4_17 : decode cJ6_bitCount_0f7a4 17 = .ok (.iushr, 1) := by decide +kernel
theorem dJ6_bitCount_0f7a4_18 : decode cJ6_bitCount_0f7a4 18 = .ok (.ldc_w 266, 3) := by decide +kernel
theorem dJ6_bitCount_0f7a4_21 : decode cJ6_bitCount_0f7a4 21 = .ok (.iand, 1) := by decide +kernel
theorem dJ6_bitCount_0f7a4_22 : decode cJ6_bitCount_0f7a4 22 = .ok (.iadd, 1) := by decide +kernel
theorem dJ6_bitCount_0f7a4_23 : decode cJ6_bitCount_0f7a4 23 = .ok (.istore_n 0, 1) := by decide +kernel
theorem dJ6_bitCount_0f7a4_24 : decode cJ6_bitCount_0f7a4 24 = .ok (.iload_n 0, 1) := by decide +kernel
theorem dJ6_bitCount_0f7a4_25 : decode cJ6_bitCount_0f7a4 25 = .ok (.iload_n 0, 1) := by decide +kernel
theorem dJ6_bitCount_0f7a4_26 : decode cJ6_bitCount_0f7a4 26 = .ok (.iconst 4, 1) := by decide +kernel
theorem dJ6_bitCount_0f7a4_27 : decode cJ6_bitCount_0f7a4 27 = .ok (.iushr, 1) := by decide +kernel
theorem dJ6_bitCount_0f7a4_28 : decode cJ6_bitCount_0f7a4 28 = .ok (.iadd, 1) := by decide +kernel
theorem dJ6_bitCount_0f7a4_29 : decode cJ6_bitCount_0f7a4 29 = .ok (.ldc_w 267, 3) := by decide +kernel
theorem dJ6_bitCount_0f7a4_32 : decode cJ6_bitCount_0f7a4 32 = .ok (.iand, 1) := by decide +kernel
theorem dJ6_bitCount_0f7a4_33 : decode cJ6_bitCount_0f7a4 33 = .ok (.istore_n 0, 1) := by decide +kernel
theorem dJ6_bitCount_0f7a4_34 : decode cJ6_bitCount_0f7a4 34 = .ok (.iload_n 0, 1) := by decide +kernel
theorem dJ6_bitCount_0f7a4_35 : decode cJ6_bitCount_0f7a4 35 = .ok (.iload_n 0, 1) := by decide +kernel
theorem dJ6_bitCount_0f7a4_36 : decode cJ6_bitCount_0f7a4 36 = .ok (.bipush 8, 2) := by decide +kernel
theorem dJ6_bitCount_0f7a4_38 : decode cJ6_bitCount_0f7a4 38 = .ok (.iushr, 1) := by decide +kernel
theorem dJ6_bitCount_0f7a4_39 : decode cJ6_bitCount_0f7a4 39 = .ok (.iadd, 1) := by decide +kernel
theorem dJ6_bitCount_0f7a4_40 : decode cJ6_bitCount_0f7a4 40 = .ok (.istore_n 0, 1) := by decide +kernel
theorem dJ6_bitCount_0f7a4_41 : decode cJ6_bitCount_0f7a4 41 = .ok (.iload_n 0, 1) := by decide +kernel
theorem dJ6_bitCount_0f7a4_42 : decode cJ6_bitCount_0f7a4 42 = .ok (.iload_n 0, 1) := by decide +kernel
theorem dJ6_bitCount_0f7a4_43 : decode cJ6_bitCount_0f7a4 43 = .ok (.bipush 16, 2) := by decide +kernel
theorem dJ6_bitCount_0f7a4_45 : decode cJ6_bitCount_0f7a4 45 = .ok (.iushr, 1) := by decide +kernel
theorem dJ6_bitCount_0f7a4_46 : decode cJ6_bitCount_0f7a4 46 = .ok (.iadd, 1) := by decide +kernel
theorem dJ6_bitCount_0f7a4_47 : decode cJ6_bitCount_0f7a4 47 = .ok (.istore_n 0, 1) := by decide +kernel
theorem dJ6_bitCount_0f7a4_48 : decode cJ6_bitCount_0f7a4 48 = .ok (.iload_n 0, 1) := by decide +kernel
theorem dJ6_bitCount_0f7a4_49 : decode cJ6_bitCount_0f7a4 49 = .ok (.bipush 63, 2) := by decide +kernel
theorem dJ6_bitCount_0f7a4_51 : decode cJ6_bitCount_0f7a4 51 = .ok (.iand, 1) := by decide +kernel
theorem dJ6_bitCount_0f7a4_52 : decode cJ6_bitCount_0f7a4 52 = .ok (.ireturn, 1) := by decide +kernel
theorem dJ9_abs_0f7a4_0 : decode cJ9_abs_0f7a4 0 = .ok (.iload_n 0, 1) := by decide +kernel
theorem dJ9_abs_0f7a4_1 : decode cJ9_abs_0f7a4 1 = .ok (.ifCond .ge 8, 3) := by decide +kernel
theorem dJ9_abs_0f7a4_4 : decode cJ9_abs_0f7a4 4 = .ok (.iload_n 0, 1) := by decide +kernel
theorem dJ9_abs_0f7a4_5 : decode cJ9_abs_0f7a4 5 = .ok (.ineg, 1) := by decide +kernel
theorem dJ9_abs_0f7a4_6 : decode cJ9_abs_0f7a4 6 = .ok (.goto 4, 3) := by decide +kernel
theorem dJ9_abs_0f7a4_9 : decode cJ9_abs_0f7a4 9 = .ok (.iload_n 0, 1) := by decide +kernel
theorem dJ9_abs_0f7a4_10 : decode cJ9_abs_0f7a4 10 = .ok (.ireturn, 1) := by decide +kernel
theorem dJ9_abs_067f4_0 : decode cJ9_abs_067f4 0 = .ok (.lload_n 0, 1) := by decide +kernel
theorem dJ9_abs_067f4_1 : decode cJ9_abs_067f4 1 = .ok (.lconst 0, 1) := by decide +kernel
theorem dJ9_abs_067f4_2 : decode cJ9_abs_067f4 2 = .ok (.lcmp, 1) := by decide +kernel
theorem dJ9_abs_067f4_3 : decode cJ9_abs_067f4 3 = .ok (.ifCond .ge 8, 3) := by decide +kernel
theorem dJ9_abs_067f4_6 : decode cJ9_abs_067f4 6 = .ok (.lload_n 0, 1) := by decide +kernel
theorem dJ9_abs_067f4_7 : decode cJ9_abs_067f4 7 = .ok (.lneg, 1) := by decide +kernel
theorem dJ9_abs_067f4_8 : decode cJ9_abs_067f4 8 = .ok (.goto 4, 3) := by decide +kernel
theorem dJ9_abs_067f4_11 : decode cJ9_abs_067f4 11 = .ok (.lload_n 0, 1) := by decide +kernel
theorem dJ9_abs_067f4_12 : decode cJ9_abs_067f4 12 = .ok (.lreturn, 1) := by decide +kernel
theorem dJ9_max_7cf53_0 : decode cJ9_max_7cf53 0 = .ok (.iload_n 0, 1) := by decide +kernel
theorem dJ9_max_7cf53_1 : decode cJ9_max_7cf53 1 = .ok (.iload_n 1, 1) := by decide +kernel
theorem dJ9_max_7cf53_2 : decode cJ9_max_7cf53 2 = .ok (.if_icmp .lt 7, 3) := by decide +kernel
theorem dJ9_max_7cf53_5 : decode cJ9_max_7cf53 5 = .ok (.iload_n 0, 1) := by decide +kernel
theorem dJ9_max_7cf53_6 : decode cJ9_max_7cf53 6 = .ok (.goto 4, 3) := by decide +kernel
theorem dJ9_max_7cf53_9 : decode cJ9_max_7cf53 9 = .ok (.iload_n 1, 1) := by decide +kernel
theorem dJ9_max_7cf53_10 : decode cJ9_max_7cf53 10 = .ok (.ireturn, 1) := by decide +kernel
theorem dJ9_min_7cf53_0 : decode cJ9_min_7cf53 0 = .ok (.iload_n 0, 1) := by decide +kernel
theorem dJ9_min_7cf53_1 : decode cJ9_min_7cf53 1 = .ok (.iload_n 1, 1) := by decide +kernel
theorem dJ9_min_7cf53_2 : decode cJ9_min_7cf53 2 = .ok (.if_icmp .gt 7, 3) := by decide +kernel
theorem dJ9_min_7cf53_5 : decode cJ9_min_7cf53 5 = .ok (.iload_n 0, 1) := by decide +kernel
theorem dJ9_min_7cf53_6 : decode cJ9_min_7cf53 6 = .ok (.goto 4, 3) := by decide +kernel
theorem dJ9_min_7cf53_9 : decode cJ9_min_7cf53 9 = .ok (.iload_n 1, 1) := by decide +kernel
theorem dJ9_min_7cf53_10 : decode cJ9_min_7cf53 10 = .ok (.ireturn, 1) := by decide +kernel
theorem dJ0_length_8abf5_0 : decode cJ0_length_8abf5 0 = .ok (.aload_n 0, 1) := by decide +kernel
theorem dJ0_length_8abf5_1 : decode cJ0_length_8abf5 1 = .ok (.getfield 9, 3) := by decide +kernel
theorem dJ0_length_8abf5_4 : decode cJ0_length_8abf5 4 = .ok (.arraylength, 1) := by decide +kernel
theorem dJ0_length_8abf5_5 : decode cJ0_length_8abf5 5 = .ok (.aload_n 0, 1) := by decide +kernel
theorem dJ0_length_8abf5_6 : decode cJ0_length_8abf5 6 = .ok (.invokevirtual 335, 3) := by decide +kernel
theorem dJ0_length_8abf5_9 : decode cJ0_length_8abf5 9 = .ok (.ishr, 1) := by decide +kernel
theorem dJ0_length_8abf5_10 : decode cJ0_length_8abf5 10 = .ok (.ireturn, 1) := by decide +kernel
theorem dJ0_charAt_5068e_0 : decode cJ0_charAt_5068e 0 = .ok (.aload_n 0, 1) := by decide +kernel
theorem dJ0_charAt_5068e_1 : decode cJ0_charAt_5068e 1 = .ok (.invokevirtual 492, 3) := by decide +kernel
theorem dJ0_charAt_5068e_4 : decode cJ0_charAt_5068e 4 = .ok (.ifCond .eq 12, 3) := by decide +kernel
theorem dJ0_charAt_5068e_7 : decode cJ0_charAt_5068e 7 = .ok (.aload_n 0, 1) := by decide +kernel
theorem dJ0_charAt_5068e_8 : decode cJ0_charAt_5068e 8 = .ok (.getfield 9, 3) := by decide +kernel
theorem dJ0_charAt_5068e_11 : decode cJ0_charAt_5068e 11 = .ok (.iload_n 1, 1) := by decide +kernel
theorem dJ0_charAt_5068e_12 : decode cJ0_charAt_5068e 12 = .ok (.invokestatic 495, 3) := by decide +kernel
theorem dJ0_charAt_5068e_15 : decode cJ0_charAt_5068e 15 = .ok (.ireturn, 1) := by decide +kernel
theorem dJ0_charAt_5068e_16 : decode cJ0_charAt_5068e 16 = .ok (.aload_n 0, 1) := by decide +kernel
theorem dJ0_charAt_5068e_17 : decode cJ0_charAt_5068e 17 = .ok (.getfield 9, 3) := by decide +kernel
theorem dJ0_charAt_5068e_20 : decode cJ0_charAt_5068e 20 = .ok (.iload_n 1, 1) := by decide +kernel
theorem dJ0_charAt_5068e_21 : decode cJ0_charAt_5068e 21 = .ok (.invokestatic 498, 3) := by decide +kernel
theorem dJ0_charAt_5068e_24 : decode cJ0_charAt_5068e 24 = .ok (.ireturn, 1) := by decide +kernel
theorem dJ0_coder_7d493_0 : decode cJ0_coder_7d493 0 = .ok (.getstatic 38, 3) := by decide +kernel
theorem dJ0_coder_7d493_3 : decode cJ0_coder_7d493 3 = .ok (.ifCond .eq 10, 3) := by decide +kernel
theorem dJ0_coder_7d493_6 : decode cJ0_coder_7d493 6 = .ok (.aload_n 0, 1) := by decide +kernel
theorem dJ0_coder_7d493_7 : decode cJ0_coder_7d493 7 = .ok (.getfield 15, 3) := by decide +kernel
theorem dJ0_coder_7d493_10 : decode cJ0_coder_7d493 10 = .ok (.goto 4, 3) := by decide +kernel
theorem dJ0_coder_7d493_13 : decode cJ0_coder_7d493 13 = .ok (.iconst 1, 1) := by decide +kernel
theorem dJ0_coder_7d493_14 : decode cJ0_coder_7d493 14 = .ok (.ireturn, 1) := by decide +kernel
theorem dJ0_isLatin1_aae02_0 : decode cJ0_isLatin1_aae02 0 = .ok (.getstatic 38, 3) := by decide +kernel
theorem dJ0_isLatin1_aae02_3 : decode cJ0_isLatin1_aae02 3 = .ok (.ifCond .eq 14, 3) := by decide +kernel
theorem dJ0_isLatin1_aae02_6 : decode cJ0_isLatin1_aae02 6 = .ok (.aload_n 0, 1) := by decide +kernel
theorem dJ0_isLatin1_aae02_7 : decode cJ0_isLatin1_aae02 7 = .ok (.getfield 15, 3) := by decide +kernel
theorem dJ0_isLatin1_aae02_10 : decode cJ0_isLatin1_aae02 10 = .ok (.ifCond .ne 7, 3) := by decide +kernel
theorem dJ0_isLatin1_aae02_13 : decode cJ0_isLatin1_aae02 13 = .ok (.iconst 1, 1) := by decide +kernel
theorem dJ0_isLatin1_aae02_14 : decode cJ0_isLatin1_aae02 14 = .ok (.goto 4, 3) := by decide +kernel
theorem dJ0_isLatin1_aae02_17 : decode cJ0_isLatin1_aae02 17 = .ok (.iconst 0, 1) := by decide +kernel
theorem dJ0_isLatin1_aae02_18 : decode cJ0_isLatin1_aae02 18 = .ok (.ireturn, 1) := by decide +kernel
theorem dJ0_checkIndex_df160_0 : decode cJ0_checkIndex_df160 0 = .ok (.iload_n 0, 1) := by decide +kernel
theorem dJ0_checkIndex_df160_1 : decode cJ0_checkIndex_df160 1 = .ok (.iload_n 1, 1) := by decide +kernel
theorem dJ0_checkIndex_df160_2 : decode cJ0_checkIndex_df160 2 = .ok (.getstatic 1053, 3) := by decide +kernel
theorem dJ0_checkIndex_df160_5 : decode cJ0_checkIndex_df160 5 = .ok (.invokestatic 1059, 3) := by decide +kernel
theorem dJ0_checkIndex_df160_8 : decode cJ0_checkIndex_df160 8 = .ok (.pop, 1) := by decide +kernel
theorem dJ0_checkIndex_df160_9 : decode cJ0_checkIndex_df160 9 = .ok (.return_, 1) := by decide +kernel
theorem dJ1_charAt_3b067_0 : decode cJ1_charAt_3b067 0 = .ok (.iload_n 1, 1) := by decide +kernel
theorem dJ1_charAt_3b067_1 : decode cJ1_charAt_3b067 1 = .ok (.aload_n 0, 1) := by decide +kernel
theorem dJ1_charAt_3b067_2 : decode cJ1_charAt_3b067 2 = .ok (.arraylength, 1) := by decide +kernel
theorem dJ1_charAt_3b067_3 : decode cJ1_charAt_3b067 3 = .ok (.invokestatic 9, 3) := by decide +kernel
theorem dJ1_charAt_3b067_6 : decode cJ1_charAt_3b067 6 = .ok (.aload_n 0, 1) := by decide +kernel
theorem dJ1_charAt_3b067_7 : decode cJ1_charAt_3b067 7 = .ok (.iload_n 1, 1) := by decide +kernel
theorem dJ1_charAt_3b067_8 : decode cJ1_charAt_3b067 8 = .ok (.baload, 1) := by decide +kernel
theorem dJ1_charAt_3b067_9 : decode cJ1_charAt_3b067 9 = .ok (.sipush 255, 3) := by decide +kernel
theorem dJ1_charAt_3b067_12 : decode cJ1_charAt_3b067 12 = .ok (.iand, 1) := by decide +kernel
theorem dJ1_charAt_3b067_13 : decode cJ1_charAt_3b067 13 = .ok (.i2c, 1) := by decide +kernel
theorem dJ1_charAt_3b067_14 : decode cJ1_charAt_3b067 14 = .ok (.ireturn, 1) := by decide +kernel
theorem dJ2_getChar_3b067_0 : decode cJ2_getChar_3b067 0 = .ok (.getstatic 44, 3) := by decide +kernel
theorem dJ2_getChar_3b067_3 : decode cJ2_getChar_3b067 3 = .ok (.ifCond .ne 25, 3) := by decide +kernel
theorem dJ2_getChar_3b067_6 : decode cJ2_getChar_3b067 6 = .ok (.iload_n 1, 1) := by decide +kernel
theorem dJ2_getChar_3b067_7 : decode cJ2_getChar_3b067 7 = .ok (.ifCond .lt 11, 3) := by decide +kernel
theorem dJ2_getChar_3b067_10 : decode cJ2_getChar_3b067 10 = .ok (.iload_n 1, 1) := by decide +kernel
theorem dJ2_getChar_3b067_11 : decode cJ2_getChar_3b067 11 = .ok (.aload_n 0, 1) := by decide +kernel
theorem dJ2_getChar_3b067_12 : decode cJ2_getChar_3b067 12 = .ok (.invokestatic 48, 3) := by decide +kernel
theorem dJ2_getChar_3b067_15 : decode cJ2_getChar_3b067 15 = .ok (.if_icmp .lt 13, 3) := by decide +kernel
theorem dJ2_getChar_3b067_18 : decode cJ2_getChar_3b067 18 = .ok (.new 52, 3) := by decide +kernel
theorem dJ2_getChar_3b067_21 : decode cJ2_getChar_3b067 21 = .ok (.dup, 1) := by decide +kernel
theorem dJ2_getChar_3b067_22 : decode cJ2_getChar_3b067 22 = .ok (.ldc 54, 2) := by decide +kernel
theorem dJ2_getChar_3b067_24 : decode cJ2_getChar_3b067 24 = .ok (.invokespecial 56, 3) := by decide +kernel
theorem dJ2_getChar_3b067_27 : decode cJ2_getChar_3b067 27 = .ok (.athrow, 1) := by decide +kernel
theorem dJ2_getChar_3b067_28 : decode cJ2_getChar_3b067 28 = .ok (.iload_n 1, 1) := by decide +kernel
theorem dJ2_getChar_3b067_29 : decode cJ2_getChar_3b067 29 = .ok (.iconst 1, 1) := by decide +kernel
theorem dJ2_getChar_3b067_30 : decode cJ2_getChar_3b067 30 = .ok (.ishl, 1) := by decide +kernel
theorem dJ2_getChar_3b067_31 : decode cJ2_getChar_3b067 31 = .ok (.istore_n 1, 1) := by decide +kernel
theorem dJ2_getChar_3b067_32 : decode cJ2_getChar_3b067 32 = .ok (.aload_n 0, 1) := by decide +kernel
theorem dJ2_getChar_3b067_33 : decode cJ2_getChar_3b067 33 = .ok (.iload_n 1, 1) := by decide +kernel
theorem dJ2_getChar_3b067_34 : decode cJ2_getChar_3b067 34 = .ok (.iinc 1 1, 3) := by decide +kernel
theorem dJ2_getChar_3b067_37 : decode cJ2_getChar_3b067 37 = .ok (.baload, 1) := by decide +kernel
theorem dJ2_getChar_3b067_38 : decode cJ2_getChar_3b067 38 = .ok (.sipush 255, 3) := by decide +kernel
theorem dJ2_getChar_3b067_41 : decode cJ2_getChar_3b067 41 = .ok (.iand, 1) := by decide +kernel
theorem dJ2_getChar_3b067_42 : decode cJ2_getChar_3b067 42 = .ok (.getstatic 59, 3) := by decide +kernel
theorem dJ2_getChar_3b067_45 : decode cJ2_getChar_3b067 45 = .ok (.ishl, 1) := by decide +kernel
theorem dJ2_getChar_3b067_46 : decode cJ2_getChar_3b067 46 = .ok (.aload_n 0, 1) := by decide +kernel
theorem dJ2_getChar_3b067_47 : decode cJ2_getChar_3b067 47 = .ok (.iload_n 1, 1) := by decide +kernel
theorem dJ2_getChar_3b067_48 : decode cJ2_getChar_3b067 48 = .ok (.baload, 1) := by decide +kernel
theorem dJ2_getChar_3b067_49 : decode cJ2_getChar_3b067 49 = .ok (.sipush 255, 3) := by decide +kernel
theorem dJ2_getChar_3b067_52 : decode cJ2_getChar_3b067 52 = .ok (.iand, 1) := by decide +kernel
theorem dJ2_getChar_3b067_53 : decode cJ2_getChar_3b067 53 = .ok (.getstatic 63, 3) := by decide +kernel
theorem dJ2_getChar_3b067_56 : decode cJ2_getChar_3b067 56 = .ok (.ishl, 1) := by decide +kernel
theorem dJ2_getChar_3b067_57 : decode cJ2_getChar_3b067 57 = .ok (.ior, 1) := by decide +kernel
theorem dJ2_getChar_3b067_58 : decode cJ2_getChar_3b067 58 = .ok (.i2c, 1) := by decide +kernel
theorem dJ2_getChar_3b067_59 : decode cJ2_getChar_3b067 59 = .ok (.ireturn, 1) := by decide +kernel
theorem dJ2_length_9d52b_0 : decode cJ2_length_9d52b 0 = .ok (.aload_n 0, 1) := by decide +kernel
theorem dJ2_length_9d52b_1 : decode cJ2_length_9d52b 1 = .ok (.arraylength, 1) := by decide +kernel
theorem dJ2_length_9d52b_2 : decode cJ2_length_9d52b 2 = .ok (.iconst 1, 1) := by decide +kernel
theorem dJ2_length_9d52b_3 : decode cJ2_length_9d52b 3 = .ok (.ishr, 1) := by decide +kernel
theorem dJ2_length_9d52b_4 : decode cJ2_length_9d52b 4 = .ok (.ireturn, 1) := by decide +kernel
theorem dJ2_charAt_3b067_0 : decode cJ2_charAt_3b067 0 = .ok (.iload_n 1, 1) := by decide +kernel
theorem dJ2_charAt_3b067_1 : decode cJ2_charAt_3b067 1 = .ok (.aload_n 0, 1) := by decide +kernel
theorem dJ2_charAt_3b067_2 : decode cJ2_charAt_3b067 2 = .ok (.invokestatic 67, 3) := by decide +kernel
theorem dJ2_charAt_3b067_5 : decode cJ2_charAt_3b067 5 = .ok (.aload_n 0, 1) := by decide +kernel
theorem dJ2_charAt_3b067_6 : decode cJ2_charAt_3b067 6 = .ok (.iload_n 1, 1) := by decide +kernel
theorem dJ2_charAt_3b067_7 : decode cJ2_charAt_3b067 7 = .ok (.invokestatic 71, 3) := by decide +kernel
theorem dJ2_charAt_3b067_10 : decode cJ2_charAt_3b067 10 = .ok (.ireturn, 1) := by decide +kernel
theorem dJ2_checkIndex_2214a_0 : decode cJ2_checkIndex_2214a 0 = .ok (.iload_n 0, 1) := by decide +kernel
theorem dJ2_checkIndex_2214a_1 : decode cJ2_checkIndex_2214a 1 = .ok (.aload_n 1, 1) := by decide +kernel
theorem dJ2_checkIndex_2214a_2 : decode cJ2_checkIndex_2214a 2 = .ok (.invokestatic 48, 3) := by decide +kernel
theorem dJ2_checkIndex_2214a_5 : decode cJ2_checkIndex_2214a 5 = .ok (.invokestatic 414, 3) := by decide +kernel
theorem dJ2_checkIndex_2214a_8 : decode cJ2_checkIndex_2214a 8 = .ok (.return_, 1) := by decide +kernel
theorem dJ3_checkIndex_8e157_0 : decode cJ3_checkIndex_8e157 0 = .ok (.iload_n 0, 1) := by decide +kernel
theorem dJ3_checkIndex_8e157_1 : decode cJ3_checkIndex_8e157 1 = .ok (.ifCond .lt 8, 3) := by decide +kernel
theorem dJ3_checkIndex_8e157_4 : decode cJ3_checkIndex_8e157 4 = .ok (.iload_n 0, 1) := by decide +kernel
theorem dJ3_checkIndex_8e157_5 : decode cJ3_checkIndex_8e157 5 = .ok (.iload_n 1, 1) := by decide +kernel
theorem dJ3_checkIndex_8e157_6 : decode cJ3_checkIndex_8e157 6 = .ok (.if_icmp .lt 10, 3) := by decide +kernel
theorem dJ3_checkIndex_8e157_9 : decode cJ3_checkIndex_8e157 9 = .ok (.aload_n 2, 1) := by decide +kernel
theorem dJ3_checkIndex_8e157_10 : decode cJ3_checkIndex_8e157 10 = .ok (.iload_n 0, 1) := by decide +kernel
theorem dJ3_checkIndex_8e157_11 : decode cJ3_checkIndex_8e157 11 = .ok (.iload_n 1, 1) := by decide +kernel
theorem dJ3_checkIndex_8e157_12 : decode cJ3_checkIndex_8e157 12 = .ok (.invokestatic 95, 3) := by decide +kernel
theorem dJ3_checkIndex_8e157_15 : decode cJ3_checkIndex_8e157 15 = .ok (.athrow, 1) := by decide +kernel
theorem dJ3_checkIndex_8e157_16 : decode cJ3_checkIndex_8e157 16 = .ok (.iload_n 0, 1) := by decide +kernel
theorem dJ3_checkIndex_8e157_17 : decode cJ3_checkIndex_8e157 17 = .ok (.ireturn, 1) := by decide +kernel
