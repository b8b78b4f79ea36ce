/-! decode rows -/
theorem dX8_init_0 : decode cX8_init 0 = .ok (.aload_n 0, 1) := by decide +kernel
theorem dX8_init_1 : decode cX8_init 1 = .ok (.invokespecial 1, 3) := by decide +kernel
theorem dX8_init_4 : decode cX8_init 4 = .ok (.aload_n 0, 1) := by decide +kernel
theorem dX8_init_5 : decode cX8_init 5 = .ok (.sipush 357, 3) := by decide +kernel
theorem dX8_init_8 : decode cX8_init 8 = .ok (.newarray .int, 2) := by decide +kernel
theorem dX8_init_10 : decode cX8_init 10 = .ok (.putfield 7, 3) := by decide +kernel
theorem dX8_init_13 : decode cX8_init 13 = .ok (.aload_n 0, 1) := by decide +kernel
theorem dX8_init_14 : decode cX8_init 14 = .ok (.sipush 357, 3) := by decide +kernel
theorem dX8_init_17 : decode cX8_init 17 = .ok (.newarray .int, 2) := by decide +kernel
theorem dX8_init_19 : decode cX8_init 19 = .ok (.putfield 13, 3) := by decide +kernel
theorem dX8_init_22 : decode cX8_init 22 = .ok (.aload_n 0, 1) := by decide +kernel
theorem dX8_init_23 : decode cX8_init 23 = .ok (.sipush 357, 3) := by decide +kernel
theorem dX8_init_26 : decode cX8_init 26 = .ok (.newarray .int, 2) := by decide +kernel
theorem dX8_init_28 : decode cX8_init 28 = .ok (.putfield 16, 3) := by decide +kernel
theorem dX8_init_31 : decode cX8_init 31 = .ok (.aload_n 0, 1) := by decide +kernel
theorem dX8_init_32 : decode cX8_init 32 = .ok (.bipush 6, 2) := by decide +kernel
theorem dX8_init_34 : decode cX8_init 34 = .ok (.newarray .int, 2) := by decide +kernel
theorem dX8_init_36 : decode cX8_init 36 = .ok (.putfield 19, 3) := by decide +kernel
theorem dX8_init_39 : decode cX8_init 39 = .ok (.aload_n 0, 1) := by decide +kernel
theorem dX8_init_40 : decode cX8_init 40 = .ok (.bipush 64, 2) := by decide +kernel
theorem dX8_init_42 : decode cX8_init 42 = .ok (.newarray .int, 2) := by decide +kernel
theorem dX8_init_44 : decode cX8_init 44 = .ok (.putfield 22, 3) := by decide +kernel
theorem dX8_init_47 : decode cX8_init 47 = .ok (.aload_n 0, 1) := by decide +kernel
theorem dX8_init_48 : decode cX8_init 48 = .ok (.bipush 60, 2) := by decide +kernel
theorem dX8_init_50 : decode cX8_init 50 = .ok (.newarray .int, 2) := by decide +kernel
theorem dX8_init_52 : decode cX8_init 52 = .ok (.putfield 25, 3) := by decide +kernel
theorem dX8_init_55 : decode cX8_init 55 = .ok (.aload_n 0, 1) := by decide +kernel
theorem dX8_init_56 : decode cX8_init 56 = .ok (.bipush 30, 2) := by decide +kernel
theorem dX8_init_58 : decode cX8_init 58 = .ok (.newarray .int, 2) := by decide +kernel
theorem dX8_init_60 : decode cX8_init 60 = .ok (.putfield 28, 3) := by decide +kernel
theorem dX8_init_63 : decode cX8_init 63 = .ok (.aload_n 0, 1) := by decide +kernel
theorem dX8_init_64 : decode cX8_init 64 = .ok (.iconst 4, 1) := by decide +kernel
theorem dX8_init_65 : decode cX8_init 65 = .ok (.newarray .int, 2) := by decide +kernel
theorem dX8_init_67 : decode cX8_init 67 = .ok (.putfield 31, 3) := by decide +kernel
theorem dX8_init_70 : decode cX8_init 70 = .ok (.aload_n 0, 1) := by decide +kernel
theorem dX8_init_71 : decode cX8_init 71 = .ok (.iconst 4, 1) := by decide +kernel
theorem dX8_init_72 : decode cX8_init 72 = .ok (.newarray .int, 2) := by decide +kernel
theorem dX8_init_74 : decode cX8_init 74 = .ok (.putfield 34, 3) := by decide +kernel
theorem dX8_init_77 : decode cX8_init 77 = .ok (.aload_n 0, 1) := by decide +kernel
theorem dX8_init_78 : decode cX8_init 78 = .ok (.bipush 96, 2) := by decide +kernel
theorem dX8_init_80 : decode cX8_init 80 = .ok (.newarray .int, 2) := by decide +kernel
theorem dX8_init_82 : decode cX8_init 82 = .ok (.putfield 37, 3) := by decide +kernel
theorem dX8_init_85 : decode cX8_init 85 = .ok (.aload_n 0, 1) := by decide +kernel
theorem dX8_init_86 : decode cX8_init 86 = .ok (.bipush 24, 2) := by decide +kernel
theorem dX8_init_88 : decode cX8_init 88 = .ok (.newarray .int, 2) := by decide +kernel
theorem dX8_init_90 : decode cX8_init 90 = .ok (.putfield 40, 3) := by decide +kernel
theorem dX8_init_93 : decode cX8_init 93 = .ok (.aload_n 0, 1) := by decide +kernel
theorem dX8_init_94 : decode cX8_init 94 = .ok (.getfield 7, 3) := by decide +kernel
theorem dX8_init_97 : decode cX8_init 97 = .ok (.iconst 5, 1) := by decide +kernel
theorem dX8_init_98 : decode cX8_init 98 = .ok (.iconst 4, 1) := by decide +kernel
theorem dX8_init_99 : decode cX8_init 99 = .ok (.iastore, 1) := by decide +kernel
theorem dX8_init_100 : decode cX8_init 100 = .ok (.aload_n 0, 1) := by decide +kernel
theorem dX8_init_101 : decode cX8_init 101 = .ok (.getfield 7, 3) := by decide +kernel
theorem dX8_init_104 : decode cX8_init 104 = .ok (.bipush 6, 2) := by decide +kernel
theorem dX8_init_106 : decode cX8_init 106 = .ok (.iconst 1, 1) := by decide +kernel
theorem dX8_init_107 : decode cX8_init 107 = .ok (.iastore, 1) := by decide +kernel
theorem dX8_init_108 : decode cX8_init 108 = .ok (.return_, 1) := by decide +kernel
theorem dX8_in_0 : decode cX8_in 0 = .ok (.lload_n 0, 1) := by decide +kernel
theorem dX8_in_1 : decode cX8_in 1 = .ok (.lload_n 2, 1) := by decide +kernel
theorem dX8_in_2 : decode cX8_in 2 = .ok (.lcmp, 1) := by decide +kernel
theorem dX8_in_3 : decode cX8_in 3 = .ok (.ifCond .lt 14, 3) := by decide +kernel
theorem dX8_in_6 : decode cX8_in 6 = .ok (.lload_n 0, 1) := by decide +kernel
theorem dX8_in_7 : decode cX8_in 7 = .ok (.lload 4, 2) := by decide +kernel
theorem dX8_in_9 : decode cX8_in 9 = .ok (.lcmp, 1) := by decide +kernel
theorem dX8_in_10 : decode cX8_in 10 = .ok (.ifCond .gt 7, 3) := by decide +kernel
theorem dX8_in_13 : decode cX8_in 13 = .ok (.iconst 1, 1) := by decide +kernel
theorem dX8_in_14 : decode cX8_in 14 = .ok (.goto 4, 3) := by decide +kernel
theorem dX8_in_17 : decode cX8_in 17 = .ok (.iconst 0, 1) := by decide +kernel
theorem dX8_in_18 : decode cX8_in 18 = .ok (.ireturn, 1) := by decide +kernel
theorem dX8_errs_0 : decode cX8_errs 0 = .ok (.aload_n 0, 1) := by decide +kernel
theorem dX8_errs_1 : decode cX8_errs 1 = .ok (.getfield 19, 3) := by decide +kernel
theorem dX8_errs_4 : decode cX8_errs 4 = .ok (.ldc 43, 2) := by decide +kernel
theorem dX8_errs_6 : decode cX8_errs 6 = .ok (.iload_n 1, 1) := by decide +kernel
theorem dX8_errs_7 : decode cX8_errs 7 = .ok (.isub, 1) := by decide +kernel
theorem dX8_errs_8 : decode cX8_errs 8 = .ok (.dup2, 1) := by decide +kernel
theorem dX8_errs_9 : decode cX8_errs 9 = .ok (.iaload, 1) := by decide +kernel
theorem dX8_errs_10 : decode cX8_errs 10 = .ok (.iconst 1, 1) := by decide +kernel
theorem dX8_errs_11 : decode cX8_errs 11 = .ok (.iadd, 1) := by decide +kernel
theorem dX8_errs_12 : decode cX8_errs 12 = .ok (.iastore, 1) := by decide +kernel
theorem dX8_errs_13 : decode cX8_errs 13 = .ok (.iload_n 1, 1) := by decide +kernel
theorem dX8_errs_14 : decode cX8_errs 14 = .ok (.ireturn, 1) := by decide +kernel
theorem dX8_isBunk_0 : decode cX8_isBunk 0 = .ok (.iload_n 1, 1) := by decide +kernel
theorem dX8_isBunk_1 : decode cX8_isBunk 1 = .ok (.i2l, 1) := by decide +kernel
theorem dX8_isBunk_2 : decode cX8_isBunk 2 = .ok (.lconst 0, 1) := by decide +kernel
theorem dX8_isBunk_3 : decode cX8_isBunk 3 = .ok (.aload_n 0, 1) := by decide +kernel
theorem dX8_isBunk_4 : decode cX8_isBunk 4 = .ok (.getfield 7, 3) := by decide +kernel
theorem dX8_isBunk_7 : decode cX8_isBunk 7 = .ok (.iconst 0, 1) := by decide +kernel
theorem dX8_isBunk_8 : decode cX8_isBunk 8 = .ok (.iaload, 1) := by decide +kernel
theorem dX8_isBunk_9 : decode cX8_isBunk 9 = .ok (.iconst 1, 1) := by decide +kernel
theorem dX8_isBunk_10 : decode cX8_isBunk 10 = .ok (.isub, 1) := by decide +kernel
theorem dX8_isBunk_11 : decode cX8_isBunk 11 = .ok (.i2l, 1) := by decide +kernel
theorem dX8_isBunk_12 : decode cX8_isBunk 12 = .ok (.invokestatic 44, 3) := by decide +kernel
theorem dX8_isBunk_15 : decode cX8_isBunk 15 = .ok (.ireturn, 1) := by decide +kernel
theorem dX8_isKnack_0 : decode cX8_isKnack 0 = .ok (.iload_n 0, 1) := by decide +kernel
theorem dX8_isKnack_1 : decode cX8_isKnack 1 = .ok (.i2l, 1) := by decide +kernel
theorem dX8_isKnack_2 : decode cX8_isKnack 2 = .ok (.lconst 0, 1) := by decide +kernel
theorem dX8_isKnack_3 : decode cX8_isKnack 3 = .ok (.ldc2_w 48, 3) := by decide +kernel
theorem dX8_isKnack_6 : decode cX8_isKnack 6 = .ok (.invokestatic 44, 3) := by decide +kernel
theorem dX8_isKnack_9 : decode cX8_isKnack 9 = .ok (.ireturn, 1) := by decide +kernel
theorem dX8_isBits_0 : decode cX8_isBits 0 = .ok (.iload_n 0, 1) := by decide +kernel
theorem dX8_isBits_1 : decode cX8_isBits 1 = .ok (.i2l, 1) := by decide +kernel
theorem dX8_isBits_2 : decode cX8_isBits 2 = .ok (.lconst 0, 1) := by decide +kernel
theorem dX8_isBits_3 : decode cX8_isBits 3 = .ok (.ldc2_w 50, 3) := by decide +kernel
theorem dX8_isBits_6 : decode cX8_isBits 6 = .ok (.invokestatic 44, 3) := by decide +kernel
theorem dX8_isBits_9 : decode cX8_isBits 9 = .ok (.ireturn, 1) := by decide +kernel
theorem dX8_has_0 : decode cX8_has 0 = .ok (.iload_n 0, 1) := by decide +kernel
theorem dX8_has_1 : decode cX8_has 1 = .ok (.iload_n 1, 1) := by decide +kernel
theorem dX8_has_2 : decode cX8_has 2 = .ok (.ishr, 1) := by decide +kernel
theorem dX8_has_3 : decode cX8_has 3 = .ok (.iconst 1, 1) := by decide +kernel
theorem dX8_has_4 : decode cX8_has 4 = .ok (.iand, 1) := by decide +kernel
theorem dX8_has_5 : decode cX8_has 5 = .ok (.iconst 1, 1) := by decide +kernel
theorem dX8_has_6 : decode cX8_has 6 = .ok (.if_icmp .ne 7, 3) := by decide +kernel
theorem dX8_has_9 : decode cX8_has 9 = .ok (.iconst 1, 1) := by decide +kernel
theorem dX8_has_10 : decode cX8_has 10 = .ok (.goto 4, 3) := by decide +kernel
theorem dX8_has_13 : decode cX8_has 13 = .ok (.iconst 0, 1) := by decide +kernel
theorem dX8_has_14 : decode cX8_has 14 = .ok (.ireturn, 1) := by decide +kernel
theorem dX8_ones_0 : decode cX8_ones 0 = .ok (.iconst 0, 1) := by decide +kernel
theorem dX8_ones_1 : decode cX8_ones 1 = .ok (.istore_n 1, 1) := by decide +kernel
theorem dX8_ones_2 : decode cX8_ones 2 = .ok (.iload_n 0, 1) := by decide +kernel
theorem dX8_ones_3 : decode cX8_ones 3 = .ok (.istore_n 2, 1) := by decide +kernel
theorem dX8_ones_4 : decode cX8_ones 4 = .ok (.iload_n 2, 1) := by decide +kernel
theorem dX8_ones_5 : decode cX8_ones 5 = .ok (.ifCond .eq 15, 3) := by decide +kernel
theorem dX8_ones_8 : decode cX8_ones 8 = .ok (.iinc 1 1, 3) := by decide +kernel
theorem dX8_ones_11 : decode cX8_ones 11 = .ok (.iload_n 2, 1) := by decide +kernel
theorem dX8_ones_12 : decode cX8_ones 12 = .ok (.iload_n 2, 1) := by decide +kernel
theorem dX8_ones_13 : decode cX8_ones 13 = .ok (.iconst 1, 1) := by decide +kernel
theorem dX8_ones_14 : decode cX8_ones 14 = .ok (.isub, 1) := by decide +kernel
theorem dX8_ones_15 : decode cX8_ones 15 = .ok (.iand, 1) := by decide +kernel
theorem dX8_ones_16 : decode cX8_ones 16 = .ok (.istore_n 2, 1) := by decide +kernel
theorem dX8_ones_17 : decode cX8_ones 17 = .ok (.goto (-13), 3) := by decide +kernel
theorem dX8_ones_20 : decode cX8_ones 20 = .ok (.iload_n 1, 1) := by decide +kernel
theorem dX8_ones_21 : decode cX8_ones 21 = .ok (.ireturn, 1) := by decide +kernel
theorem dX8_held_0 : decode cX8_held 0 = .ok (.iload_n 0, 1) := by decide +kernel
theorem dX8_held_1 : decode cX8_held 1 = .ok (.iload_n 1, 1) := by decide +kernel
theorem dX8_held_2 : decode cX8_held 2 = .ok (.if_icmp .ge 7, 3) := by decide +kernel
theorem dX8_held_5 : decode cX8_held 5 = .ok (.iload_n 1, 1) := by decide +kernel
theorem dX8_held_6 : decode cX8_held 6 = .ok (.goto 13, 3) := by decide +kernel
theorem dX8_held_9 : decode cX8_held 9 = .ok (.iload_n 0, 1) := by decide +kernel
theorem dX8_held_10 : decode cX8_held 10 = .ok (.iload_n 2, 1) := by decide +kernel
theorem dX8_held_11 : decode cX8_held 11 = .ok (.if_icmp .le 7, 3) := by decide +kernel
theorem dX8_held_14 : decode cX8_held 14 = .ok (.iload_n 2, 1) := by decide +kernel
theorem dX8_held_15 : decode cX8_held 15 = .ok (.goto 4, 3) := by decide +kernel
theorem dX8_held_18 : decode cX8_held 18 = .ok (.iload_n 0, 1) := by decide +kernel
theorem dX8_held_19 : decode cX8_held 19 = .ok (.ireturn, 1) := by decide +kernel
theorem dX8_keepsAside_0 : decode cX8_keepsAside 0 = .ok (.iconst 0, 1) := by decide +kernel
theorem dX8_keepsAside_1 : decode cX8_keepsAside 1 = .ok (.istore_n 1, 1) := by decide +kernel
theorem dX8_keepsAside_2 : decode cX8_keepsAside 2 = .ok (.iload_n 1, 1) := by decide +kernel
theorem dX8_keepsAside_3 : decode cX8_keepsAside 3 = .ok (.sipush 357, 3) := by decide +kernel
theorem dX8_keepsAside_6 : decode cX8_keepsAside 6 = .ok (.if_icmp .ge 21, 3) := by decide +kernel
theorem dX8_keepsAside_9 : decode cX8_keepsAside 9 = .ok (.aload_n 0, 1) := by decide +kernel
theorem dX8_keepsAside_10 : decode cX8_keepsAside 10 = .ok (.getfield 16, 3) := by decide +kernel
theorem dX8_keepsAside_13 : decode cX8_keepsAside 13 = .ok (.iload_n 1, 1) := by decide +kernel
theorem dX8_keepsAside_14 : decode cX8_keepsAside 14 = .ok (.aload_n 0, 1) := by decide +kernel
theorem dX8_keepsAside_15 : decode cX8_keepsAside 15 = .ok (.getfield 7, 3) := by decide +kernel
theorem dX8_keepsAside_18 : decode cX8_keepsAside 18 = .ok (.iload_n 1, 1) := by decide +kernel
theorem dX8_keepsAside_19 : decode cX8_keepsAside 19 = .ok (.iaload, 1) := by decide +kernel
theorem dX8_keepsAside_20 : decode cX8_keepsAside 20 = .ok (.iastore, 1) := by decide +kernel
theorem dX8_keepsAside_21 : decode cX8_keepsAside 21 = .ok (.iinc 1 1, 3) := by decide +kernel
theorem dX8_keepsAside_24 : decode cX8_keepsAside 24 = .ok (.goto (-22), 3) := by decide +kernel
theorem dX8_keepsAside_27 : decode cX8_keepsAside 27 = .ok (.return_, 1) := by decide +kernel
theorem dX8_putsBack_0 : decode cX8_putsBack 0 = .ok (.iconst 0, 1) := by decide +kernel
theorem dX8_putsBack_1 : decode cX8_putsBack 1 = .ok (.istore_n 1, 1) := by decide +kernel
theorem dX8_putsBack_2 : decode cX8_putsBack 2 = .ok (.iload_n 1, 1) := by decide +kernel
theorem dX8_putsBack_3 : decode cX8_putsBack 3 = .ok (.sipush 357, 3) := by decide +kernel
theorem dX8_putsBack_6 : decode cX8_putsBack 6 = .ok (.if_icmp .ge 21, 3) := by decide +kernel
theorem dX8_putsBack_9 : decode cX8_putsBack 9 = .ok (.aload_n 0, 1) := by decide +kernel
theorem dX8_putsBack_10 : decode cX8_putsBack 10 = .ok (.getfield 7, 3) := by decide +kernel
theorem dX8_putsBack_13 : decode cX8_putsBack 13 = .ok (.iload_n 1, 1) := by decide +kernel
theorem dX8_putsBack_14 : decode cX8_putsBack 14 = .ok (.aload_n 0, 1) := by decide +kernel
theorem dX8_putsBack_15 : decode cX8_putsBack 15 = .ok (.getfield 16, 3) := by decide +kernel
theorem dX8_putsBack_18 : decode cX8_putsBack 18 = .ok (.iload_n 1, 1) := by decide +kernel
theorem dX8_putsBack_19 : decode cX8_putsBack 19 = .ok (.iaload, 1) := by decide +kernel
theorem dX8_putsBack_20 : decode cX8_putsBack 20 = .ok (.iastore, 1) := by decide +kernel
theorem dX8_putsBack_21 : decode cX8_putsBack 21 = .ok (.iinc 1 1, 3) := by decide +kernel
theorem dX8_putsBack_24 : decode cX8_putsBack 24 = .ok (.goto (-22), 3) := by decide +kernel
theorem dX8_putsBack_27 : decode cX8_putsBack 27 = .ok (.return_, 1) := by decide +kernel
theorem dX8_by_0 : decode cX8_by 0 = .ok (.iload_n 0, 1) := by decide +kernel
theorem dX8_by_1 : decode cX8_by 1 = .ok (.tableswitch 147 (-19) (-11) #[124, 120, 116, 112, 101, 90, 79, 65, 51], 51) := by decide +kernel
theorem dX8_by_52 : decode cX8_by 52 = .ok (.iload_n 1, 1) := by decide +kernel
theorem dX8_by_53 : decode cX8_by 53 = .ok (.ifCond .ne 7, 3) := by decide +kernel
theorem dX8_by_56 : decode cX8_by 56 = .ok (.iload_n 2, 1) := by decide +kernel
theorem dX8_by_57 : decode cX8_by 57 = .ok (.ifCond .eq 7, 3) := by decide +kernel
theorem dX8_by_60 : decode cX8_by 60 = .ok (.iconst 1, 1) := by decide +kernel
theorem dX8_by_61 : decode cX8_by 61 = .ok (.goto 4, 3) := by decide +kernel
theorem dX8_by_64 : decode cX8_by 64 = .ok (.iconst 0, 1) := by decide +kernel
theorem dX8_by_65 : decode cX8_by 65 = .ok (.ireturn, 1) := by decide +kernel
theorem dX8_by_66 : decode cX8_by 66 = .ok (.iload_n 1, 1) := by decide +kernel
theorem dX8_by_67 : decode cX8_by 67 = .ok (.ifCond .eq 11, 3) := by decide +kernel
theorem dX8_by_70 : decode cX8_by 70 = .ok (.iload_n 2, 1) := by decide +kernel
theorem dX8_by_71 : decode cX8_by 71 = .ok (.ifCond .eq 7, 3) := by decide +kernel
theorem dX8_by_74 : decode cX8_by 74 = .ok (.iconst 1, 1) := by decide +kernel
theorem dX8_by_75 : decode cX8_by 75 = .ok (.goto 4, 3) := by decide +kernel
theorem dX8_by_78 : decode cX8_by 78 = .ok (.iconst 0, 1) := by decide +kernel
theorem dX8_by_79 : decode cX8_by 79 = .ok (.ireturn, 1) := by decide +kernel
theorem dX8_by_80 : decode cX8_by 80 = .ok (.iload_n 1, 1) := by decide +kernel
theorem dX8_by_81 : decode cX8_by 81 = .ok (.iload_n 2, 1) := by decide +kernel
theorem dX8_by_82 : decode cX8_by 82 = .ok (.if_icmp .ge 7, 3) := by decide +kernel
theorem dX8_by_85 : decode cX8_by 85 = .ok (.iconst 1, 1) := by decide +kernel
theorem dX8_by_86 : decode cX8_by 86 = .ok (.goto 4, 3) := by decide +kernel
theorem dX8_by_89 : decode cX8_by 89 = .ok (.iconst 0, 1) := by decide +kernel
theorem dX8_by_90 : decode cX8_by 90 = .ok (.ireturn, 1) := by decide +kernel
theorem dX8_by_91 : decode cX8_by 91 = .ok (.iload_n 1, 1) := by decide +kernel
theorem dX8_by_92 : decode cX8_by 92 = .ok (.iload_n 2, 1) := by decide +kernel
theorem dX8_by_93 : decode cX8_by 93 = .ok (.if_icmp .ne 7, 3) := by decide +kernel
theorem dX8_by_96 : decode cX8_by 96 = .ok (.iconst 1, 1) := by decide +kernel
theorem dX8_by_97 : decode cX8_by 97 = .ok (.goto 4, 3) := by decide +kernel
theorem dX8_by_100 : decode cX8_by 100 = .ok (.iconst 0, 1) := by decide +kernel
theorem dX8_by_101 : decode cX8_by 101 = .ok (.ireturn, 1) := by decide +kernel
theorem dX8_by_102 : decode cX8_by 102 = .ok (.iload_n 1, 1) := by decide +kernel
theorem dX8_by_103 : decode cX8_by 103 = .ok (.iload_n 2, 1) := by decide +kernel
theorem dX8_by_104 : decode cX8_by 104 = .ok (.if_icmp .le 7, 3) := by decide +kernel
theorem dX8_by_107 : decode cX8_by 107 = .ok (.iconst 1, 1) := by decide +kernel
theorem dX8_by_108 : decode cX8_by 108 = .ok (.goto 4, 3) := by decide +kernel
theorem dX8_by_111 : decode cX8_by 111 = .ok (.iconst 0, 1) := by decide +kernel
theorem dX8_by_112 : decode cX8_by 112 = .ok (.ireturn, 1) := by decide +kernel
theorem dX8_by_113 : decode cX8_by 113 = .ok (.iload_n 1, 1) := by decide +kernel
theorem dX8_by_114 : decode cX8_by 114 = .ok (.iload_n 2, 1) := by decide +kernel
theorem dX8_by_115 : decode cX8_by 115 = .ok (.iadd, 1) := by decide +kernel
theorem dX8_by_116 : decode cX8_by 116 = .ok (.ireturn, 1) := by decide +kernel
theorem dX8_by_117 : decode cX8_by 117 = .ok (.iload_n 1, 1) := by decide +kernel
theorem dX8_by_118 : decode cX8_by 118 = .ok (.iload_n 2, 1) := by decide +kernel
theorem dX8_by_119 : decode cX8_by 119 = .ok (.isub, 1) := by decide +kernel
theorem dX8_by_120 : decode cX8_by 120 = .ok (.ireturn, 1) := by decide +kernel
theorem dX8_by_121 : decode cX8_by 121 = .ok (.iload_n 1, 1) := by decide +kernel
theorem dX8_by_122 : decode cX8_by 122 = .ok (.iload_n 2, 1) := by decide +kernel
theorem dX8_by_123 : decode cX8_by 123 = .ok (.imul, 1) := by decide +kernel
theorem dX8_by_124 : decode cX8_by 124 = .ok (.ireturn, 1) := by decide +kernel
theorem dX8_by_125 : decode cX8_by 125 = .ok (.iload_n 2, 1) := by decide +kernel
theorem dX8_by_126 : decode cX8_by 126 = .ok (.ifCond .ne 7, 3) := by decide +kernel
theorem dX8_by_129 : decode cX8_by 129 = .ok (.iconst 0, 1) := by decide +kernel
theorem dX8_by_130 : decode cX8_by 130 = .ok (.goto 17, 3) := by decide +kernel
theorem dX8_by_133 : decode cX8_by 133 = .ok (.iload_n 2, 1) := by decide +kernel
theorem dX8_by_134 : decode cX8_by 134 = .ok (.iconst (-1), 1) := by decide +kernel
theorem dX8_by_135 : decode cX8_by 135 = .ok (.if_icmp .ne 9, 3) := by decide +kernel
theorem dX8_by_138 : decode cX8_by 138 = .ok (.iconst 0, 1) := by decide +kernel
theorem dX8_by_139 : decode cX8_by 139 = .ok (.iload_n 1, 1) := by decide +kernel
theorem dX8_by_140 : decode cX8_by 140 = .ok (.isub, 1) := by decide +kernel
theorem dX8_by_141 : decode cX8_by 141 = .ok (.goto 6, 3) := by decide +kernel
theorem dX8_by_144 : decode cX8_by 144 = .ok (.iload_n 1, 1) := by decide +kernel
theorem dX8_by_145 : decode cX8_by 145 = .ok (.iload_n 2, 1) := by decide +kernel
theorem dX8_by_146 : decode cX8_by 146 = .ok (.idiv, 1) := by decide +kernel
theorem dX8_by_147 : decode cX8_by 147 = .ok (.ireturn, 1) := by decide +kernel
theorem dX8_by_148 : decode cX8_by 148 = .ok (.iload_n 2, 1) := by decide +kernel
theorem dX8_by_149 : decode cX8_by 149 = .ok (.ifCond .eq 8, 3) := by decide +kernel
theorem dX8_by_152 : decode cX8_by 152 = .ok (.iload_n 2, 1) := by decide +kernel
theorem dX8_by_153 : decode cX8_by 153 = .ok (.iconst (-1), 1) := by decide +kernel
theorem dX8_by_154 : decode cX8_by 154 = .ok (.if_icmp .ne 7, 3) := by decide +kernel
theorem dX8_by_157 : decode cX8_by 157 = .ok (.iconst 0, 1) := by decide +kernel
theorem dX8_by_158 : decode cX8_by 158 = .ok (.goto 6, 3) := by decide +kernel
theorem dX8_by_161 : decode cX8_by 161 = .ok (.iload_n 1, 1) := by decide +kernel
theorem dX8_by_162 : decode cX8_by 162 = .ok (.iload_n 2, 1) := by decide +kernel
theorem dX8_by_163 : decode cX8_by 163 = .ok (.irem, 1) := by decide +kernel
theorem dX8_by_164 : decode cX8_by 164 = .ok (.ireturn, 1) := by decide +kernel
theorem dX8_worked_0 : decode cX8_worked 0 = .ok (.iconst 0, 1) := by decide +kernel
theorem dX8_worked_1 : decode cX8_worked 1 = .ok (.istore 6, 2) := by decide +kernel
theorem dX8_worked_3 : decode cX8_worked 3 = .ok (.iconst 0, 1) := by decide +kernel
theorem dX8_worked_4 : decode cX8_worked 4 = .ok (.istore 7, 2) := by decide +kernel
theorem dX8_worked_6 : decode cX8_worked 6 = .ok (.iload 7, 2) := by decide +kernel
theorem dX8_worked_8 : decode cX8_worked 8 = .ok (.aload_n 0, 1) := by decide +kernel
theorem dX8_worked_9 : decode cX8_worked 9 = .ok (.getfield 7, 3) := by decide +kernel
theorem dX8_worked_12 : decode cX8_worked 12 = .ok (.bipush 9, 2) := by decide +kernel
theorem dX8_worked_14 : decode cX8_worked 14 = .ok (.iload_n 1, 1) := by decide +kernel
theorem dX8_worked_15 : decode cX8_worked 15 = .ok (.iadd, 1) := by decide +kernel
theorem dX8_worked_16 : decode cX8_worked 16 = .ok (.iaload, 1) := by decide +kernel
theorem dX8_worked_17 : decode cX8_worked 17 = .ok (.if_icmp .ge 161, 3) := by decide +kernel
theorem dX8_worked_20 : decode cX8_worked 20 = .ok (.aload_n 0, 1) := by decide +kernel
theorem dX8_worked_21 : decode cX8_worked 21 = .ok (.getfield 7, 3) := by decide +kernel
theorem dX8_worked_24 : decode cX8_worked 24 = .ok (.sipush 237, 3) := by decide +kernel
theorem dX8_worked_27 : decode cX8_worked 27 = .ok (.bipush 60, 2) := by decide +kernel
theorem dX8_worked_29 : decode cX8_worked 29 = .ok (.iload_n 1, 1) := by decide +kernel
theorem dX8_worked_30 : decode cX8_worked 30 = .ok (.imul, 1) := by decide +kernel
theorem dX8_worked_31 : decode cX8_worked 31 = .ok (.iadd, 1) := by decide +kernel
theorem dX8_worked_32 : decode cX8_worked 32 = .ok (.iload 7, 2) := by decide +kernel
theorem dX8_worked_34 : decode cX8_worked 34 = .ok (.iadd, 1) := by decide +kernel
theorem dX8_worked_35 : decode cX8_worked 35 = .ok (.iaload, 1) := by decide +kernel
theorem dX8_worked_36 : decode cX8_worked 36 = .ok (.istore 8, 2) := by decide +kernel
theorem dX8_worked_38 : decode cX8_worked 38 = .ok (.iload 8, 2) := by decide +kernel
theorem dX8_worked_40 : decode cX8_worked 40 = .ok (.bipush (-10), 2) := by decide +kernel
theorem dX8_worked_42 : decode cX8_worked 42 = .ok (.if_icmp .le 61, 3) := by decide +kernel
theorem dX8_worked_45 : decode cX8_worked 45 = .ok (.aload_n 0, 1) := by decide +kernel
theorem dX8_worked_46 : decode cX8_worked 46 = .ok (.getfield 22, 3) := by decide +kernel
theorem dX8_worked_49 : decode cX8_worked 49 = .ok (.iload 6, 2) := by decide +kernel
theorem dX8_worked_51 : decode cX8_worked 51 = .ok (.iload 8, 2) := by decide +kernel
theorem dX8_worked_53 : decode cX8_worked 53 = .ok (.ifCond .lt 8, 3) := by decide +kernel
theorem dX8_worked_56 : decode cX8_worked 56 = .ok (.iload 8, 2) := by decide +kernel
theorem dX8_worked_58 : decode cX8_worked 58 = .ok (.goto 38, 3) := by decide +kernel
theorem dX8_worked_61 : decode cX8_worked 61 = .ok (.iload 8, 2) := by decide +kernel
theorem dX8_worked_63 : decode cX8_worked 63 = .ok (.iconst (-1), 1) := by decide +kernel
theorem dX8_worked_64 : decode cX8_worked 64 = .ok (.if_icmp .ne 7, 3) := by decide +kernel
theorem dX8_worked_67 : decode cX8_worked 67 = .ok (.iload_n 2, 1) := by decide +kernel
theorem dX8_worked_68 : decode cX8_worked 68 = .ok (.goto 28, 3) := by decide +kernel
theorem dX8_worked_71 : decode cX8_worked 71 = .ok (.iload 8, 2) := by decide +kernel
theorem dX8_worked_73 : decode cX8_worked 73 = .ok (.bipush (-2), 2) := by decide +kernel
theorem dX8_worked_75 : decode cX8_worked 75 = .ok (.if_icmp .ne 7, 3) := by decide +kernel
theorem dX8_worked_78 : decode cX8_worked 78 = .ok (.iload_n 3, 1) := by decide +kernel
theorem dX8_worked_79 : decode cX8_worked 79 = .ok (.goto 17, 3) := by decide +kernel
theorem dX8_worked_82 : decode cX8_worked 82 = .ok (.iload 8, 2) := by decide +kernel
theorem dX8_worked_84 : decode cX8_worked 84 = .ok (.bipush (-3), 2) := by decide +kernel
theorem dX8_worked_86 : decode cX8_worked 86 = .ok (.if_icmp .ne 8, 3) := by decide +kernel
theorem dX8_worked_89 : decode cX8_worked 89 = .ok (.iload 4, 2) := by decide +kernel
theorem dX8_worked_91 : decode cX8_worked 91 = .ok (.goto 5, 3) := by decide +kernel
theorem dX8_worked_94 : decode cX8_worked 94 = .ok (.iload 5, 2) := by decide +kernel
theorem dX8_worked_96 : decode cX8_worked 96 = .ok (.iastore, 1) := by decide +kernel
theorem dX8_worked_97 : decode cX8_worked 97 = .ok (.iinc 6 1, 3) := by decide +kernel
theorem dX8_worked_100 : decode cX8_worked 100 = .ok (.goto 72, 3) := by decide +kernel
theorem dX8_worked_103 : decode cX8_worked 103 = .ok (.iload 8, 2) := by decide +kernel
theorem dX8_worked_105 : decode cX8_worked 105 = .ok (.bipush (-21), 2) := by decide +kernel
theorem dX8_worked_107 : decode cX8_worked 107 = .ok (.if_icmp .ne 32, 3) := by decide +kernel
theorem dX8_worked_110 : decode cX8_worked 110 = .ok (.aload_n 0, 1) := by decide +kernel
theorem dX8_worked_111 : decode cX8_worked 111 = .ok (.getfield 22, 3) := by decide +kernel
theorem dX8_worked_114 : decode cX8_worked 114 = .ok (.iload 6, 2) := by decide +kernel
theorem dX8_worked_116 : decode cX8_worked 116 = .ok (.iconst 1, 1) := by decide +kernel
theorem dX8_worked_117 : decode cX8_worked 117 = .ok (.isub, 1) := by decide +kernel
theorem dX8_worked_118 : decode cX8_worked 118 = .ok (.aload_n 0, 1) := by decide +kernel
theorem dX8_worked_119 : decode cX8_worked 119 = .ok (.getfield 22, 3) := by decide +kernel
theorem dX8_worked_122 : decode cX8_worked 122 = .ok (.iload 6, 2) := by decide +kernel
theorem dX8_worked_124 : decode cX8_worked 124 = .ok (.iconst 1, 1) := by decide +kernel
theorem dX8_worked_125 : decode cX8_worked 125 = .ok (.isub, 1) := by decide +kernel
theorem dX8_worked_126 : decode cX8_worked 126 = .ok (.iaload, 1) := by decide +kernel
theorem dX8_worked_127 : decode cX8_worked 127 = .ok (.ifCond .ne 7, 3) := by decide +kernel
theorem dX8_worked_130 : decode cX8_worked 130 = .ok (.iconst 1, 1) := by decide +kernel
theorem dX8_worked_131 : decode cX8_worked 131 = .ok (.goto 4, 3) := by decide +kernel
theorem dX8_worked_134 : decode cX8_worked 134 = .ok (.iconst 0, 1) := by decide +kernel
theorem dX8_worked_135 : decode cX8_worked 135 = .ok (.iastore, 1) := by decide +kernel
theorem dX8_worked_136 : decode cX8_worked 136 = .ok (.goto 36, 3) := by decide +kernel
theorem dX8_worked_139 : decode cX8_worked 139 = .ok (.iinc 6 (-1), 3) := by decide +kernel
theorem dX8_worked_142 : decode cX8_worked 142 = .ok (.aload_n 0, 1) := by decide +kernel
theorem dX8_worked_143 : decode cX8_worked 143 = .ok (.getfield 22, 3) := by decide +kernel
theorem dX8_worked_146 : decode cX8_worked 146 = .ok (.iload 6, 2) := by decide +kernel
theorem dX8_worked_148 : decode cX8_worked 148 = .ok (.iconst 1, 1) := by decide +kernel
theorem dX8_worked_149 : decode cX8_worked 149 = .ok (.isub, 1) := by decide +kernel
theorem dX8_worked_150 : decode cX8_worked 150 = .ok (.iload 8, 2) := by decide +kernel
theorem dX8_worked_152 : decode cX8_worked 152 = .ok (.aload_n 0, 1) := by decide +kernel
theorem dX8_worked_153 : decode cX8_worked 153 = .ok (.getfield 22, 3) := by decide +kernel
theorem dX8_worked_156 : decode cX8_worked 156 = .ok (.iload 6, 2) := by decide +kernel
theorem dX8_worked_158 : decode cX8_worked 158 = .ok (.iconst 1, 1) := by decide +kernel
theorem dX8_worked_159 : decode cX8_worked 159 = .ok (.isub, 1) := by decide +kernel
theorem dX8_worked_160 : decode cX8_worked 160 = .ok (.iaload, 1) := by decide +kernel
theorem dX8_worked_161 : decode cX8_worked 161 = .ok (.aload_n 0, 1) := by decide +kernel
theorem dX8_worked_162 : decode cX8_worked 162 = .ok (.getfield 22, 3) := by decide +kernel
theorem dX8_worked_165 : decode cX8_worked 165 = .ok (.iload 6, 2) := by decide +kernel
theorem dX8_worked_167 : decode cX8_worked 167 = .ok (.iaload, 1) := by decide +kernel
theorem dX8_worked_168 : decode cX8_worked 168 = .ok (.invokestatic 52, 3) := by decide +kernel
theorem dX8_worked_171 : decode cX8_worked 171 = .ok (.iastore, 1) := by decide +kernel
theorem dX8_worked_172 : decode cX8_worked 172 = .ok (.iinc 7 1, 3) := by decide +kernel
theorem dX8_worked_175 : decode cX8_worked 175 = .ok (.goto (-169), 3) := by decide +kernel
theorem dX8_worked_178 : decode cX8_worked 178 = .ok (.aload_n 0, 1) := by decide +kernel
theorem dX8_worked_179 : decode cX8_worked 179 = .ok (.getfield 22, 3) := by decide +kernel
theorem dX8_worked_182 : decode cX8_worked 182 = .ok (.iconst 0, 1) := by decide +kernel
theorem dX8_worked_183 : decode cX8_worked 183 = .ok (.iaload, 1) := by decide +kernel
theorem dX8_worked_184 : decode cX8_worked 184 = .ok (.ireturn, 1) := by decide +kernel
theorem dX8_at_0 : decode cX8_at 0 = .ok (.bipush 11, 2) := by decide +kernel
theorem dX8_at_2 : decode cX8_at 2 = .ok (.bipush 17, 2) := by decide +kernel
theorem dX8_at_4 : decode cX8_at 4 = .ok (.iload_n 0, 1) := by decide +kernel
theorem dX8_at_5 : decode cX8_at 5 = .ok (.imul, 1) := by decide +kernel
theorem dX8_at_6 : decode cX8_at 6 = .ok (.iadd, 1) := by decide +kernel
theorem dX8_at_7 : decode cX8_at 7 = .ok (.iload_n 1, 1) := by decide +kernel
theorem dX8_at_8 : decode cX8_at 8 = .ok (.iadd, 1) := by decide +kernel
theorem dX8_at_9 : decode cX8_at 9 = .ok (.ireturn, 1) := by decide +kernel
theorem dX8_its_0 : decode cX8_its 0 = .ok (.aload_n 0, 1) := by decide +kernel
theorem dX8_its_1 : decode cX8_its 1 = .ok (.getfield 7, 3) := by decide +kernel
theorem dX8_its_4 : decode cX8_its 4 = .ok (.iload_n 1, 1) := by decide +kernel
theorem dX8_its_5 : decode cX8_its 5 = .ok (.iload_n 2, 1) := by decide +kernel
theorem dX8_its_6 : decode cX8_its 6 = .ok (.invokestatic 56, 3) := by decide +kernel
theorem dX8_its_9 : decode cX8_its 9 = .ok (.iaload, 1) := by decide +kernel
theorem dX8_its_10 : decode cX8_its 10 = .ok (.ireturn, 1) := by decide +kernel
theorem dX8_isKnowing_0 : decode cX8_isKnowing 0 = .ok (.aload_n 0, 1) := by decide +kernel
theorem dX8_isKnowing_1 : decode cX8_isKnowing 1 = .ok (.iload_n 1, 1) := by decide +kernel
theorem dX8_isKnowing_2 : decode cX8_isKnowing 2 = .ok (.iconst 3, 1) := by decide +kernel
theorem dX8_isKnowing_3 : decode cX8_isKnowing 3 = .ok (.invokevirtual 60, 3) := by decide +kernel
theorem dX8_isKnowing_6 : decode cX8_isKnowing 6 = .ok (.iload_n 2, 1) := by decide +kernel
theorem dX8_isKnowing_7 : decode cX8_isKnowing 7 = .ok (.invokestatic 63, 3) := by decide +kernel
theorem dX8_isKnowing_10 : decode cX8_isKnowing 10 = .ok (.ireturn, 1) := by decide +kernel
theorem dX8_needs_0 : decode cX8_needs 0 = .ok (.aload_n 0, 1) := by decide +kernel
theorem dX8_needs_1 : decode cX8_needs 1 = .ok (.iload_n 1, 1) := by decide +kernel
theorem dX8_needs_2 : decode cX8_needs 2 = .ok (.iconst 1, 1) := by decide +kernel
theorem dX8_needs_3 : decode cX8_needs 3 = .ok (.invokevirtual 60, 3) := by decide +kernel
theorem dX8_needs_6 : decode cX8_needs 6 = .ok (.istore_n 3, 1) := by decide +kernel
theorem dX8_needs_7 : decode cX8_needs 7 = .ok (.iconst 2, 1) := by decide +kernel
theorem dX8_needs_8 : decode cX8_needs 8 = .ok (.istore 4, 2) := by decide +kernel
theorem dX8_needs_10 : decode cX8_needs 10 = .ok (.aload_n 0, 1) := by decide +kernel
theorem dX8_needs_11 : decode cX8_needs 11 = .ok (.iload_n 1, 1) := by decide +kernel
theorem dX8_needs_12 : decode cX8_needs 12 = .ok (.iconst 0, 1) := by decide +kernel
theorem dX8_needs_13 : decode cX8_needs 13 = .ok (.invokevirtual 60, 3) := by decide +kernel
theorem dX8_needs_16 : decode cX8_needs 16 = .ok (.tableswitch 90 1 6 #[40, 46, 90, 40, 90, 54], 40) := by decide +kernel
theorem dX8_needs_56 : decode cX8_needs 56 = .ok (.iconst 1, 1) := by decide +kernel
theorem dX8_needs_57 : decode cX8_needs 57 = .ok (.istore 4, 2) := by decide +kernel
theorem dX8_needs_59 : decode cX8_needs 59 = .ok (.goto 47, 3) := by decide +kernel
theorem dX8_needs_62 : decode cX8_needs 62 = .ok (.iconst 2, 1) := by decide +kernel
theorem dX8_needs_63 : decode cX8_needs 63 = .ok (.iload_n 3, 1) := by decide +kernel
theorem dX8_needs_64 : decode cX8_needs 64 = .ok (.iadd, 1) := by decide +kernel
theorem dX8_needs_65 : decode cX8_needs 65 = .ok (.istore 4, 2) := by decide +kernel
theorem dX8_needs_67 : decode cX8_needs 67 = .ok (.goto 39, 3) := by decide +kernel
theorem dX8_needs_70 : decode cX8_needs 70 = .ok (.aload_n 0, 1) := by decide +kernel
theorem dX8_needs_71 : decode cX8_needs 71 = .ok (.getfield 7, 3) := by decide +kernel
theorem dX8_needs_74 : decode cX8_needs 74 = .ok (.bipush 9, 2) := by decide +kernel
theorem dX8_needs_76 : decode cX8_needs 76 = .ok (.iaload, 1) := by decide +kernel
theorem dX8_needs_77 : decode cX8_needs 77 = .ok (.ifCond .ne 7, 3) := by decide +kernel
theorem dX8_needs_80 : decode cX8_needs 80 = .ok (.iload_n 3, 1) := by decide +kernel
theorem dX8_needs_81 : decode cX8_needs 81 = .ok (.goto 20, 3) := by decide +kernel
theorem dX8_needs_84 : decode cX8_needs 84 = .ok (.aload_n 0, 1) := by decide +kernel
theorem dX8_needs_85 : decode cX8_needs 85 = .ok (.iconst 0, 1) := by decide +kernel
theorem dX8_needs_86 : decode cX8_needs 86 = .ok (.iload_n 2, 1) := by decide +kernel
theorem dX8_needs_87 : decode cX8_needs 87 = .ok (.aload_n 0, 1) := by decide +kernel
theorem dX8_needs_88 : decode cX8_needs 88 = .ok (.iload_n 1, 1) := by decide +kernel
theorem dX8_needs_89 : decode cX8_needs 89 = .ok (.iconst 3, 1) := by decide +kernel
theorem dX8_needs_90 : decode cX8_needs 90 = .ok (.invokevirtual 60, 3) := by decide +kernel
theorem dX8_needs_93 : decode cX8_needs 93 = .ok (.invokestatic 67, 3) := by decide +kernel
theorem dX8_needs_96 : decode cX8_needs 96 = .ok (.iload_n 3, 1) := by decide +kernel
theorem dX8_needs_97 : decode cX8_needs 97 = .ok (.iconst 0, 1) := by decide +kernel
theorem dX8_needs_98 : decode cX8_needs 98 = .ok (.invokevirtual 71, 3) := by decide +kernel
theorem dX8_needs_101 : decode cX8_needs 101 = .ok (.istore 4, 2) := by decide +kernel
theorem dX8_needs_103 : decode cX8_needs 103 = .ok (.goto 3, 3) := by decide +kernel
theorem dX8_needs_106 : decode cX8_needs 106 = .ok (.iload 4, 2) := by decide +kernel
theorem dX8_needs_108 : decode cX8_needs 108 = .ok (.iconst 1, 1) := by decide +kernel
theorem dX8_needs_109 : decode cX8_needs 109 = .ok (.bipush 99, 2) := by decide +kernel
theorem dX8_needs_111 : decode cX8_needs 111 = .ok (.invokestatic 75, 3) := by decide +kernel
theorem dX8_needs_114 : decode cX8_needs 114 = .ok (.ireturn, 1) := by decide +kernel
theorem dX8_tells_0 : decode cX8_tells 0 = .ok (.aload_n 0, 1) := by decide +kernel
theorem dX8_tells_1 : decode cX8_tells 1 = .ok (.iload_n 1, 1) := by decide +kernel
theorem dX8_tells_2 : decode cX8_tells 2 = .ok (.iconst 0, 1) := by decide +kernel
theorem dX8_tells_3 : decode cX8_tells 3 = .ok (.invokevirtual 60, 3) := by decide +kernel
theorem dX8_tells_6 : decode cX8_tells 6 = .ok (.istore_n 3, 1) := by decide +kernel
theorem dX8_tells_7 : decode cX8_tells 7 = .ok (.aload_n 0, 1) := by decide +kernel
theorem dX8_tells_8 : decode cX8_tells 8 = .ok (.iload_n 1, 1) := by decide +kernel
theorem dX8_tells_9 : decode cX8_tells 9 = .ok (.iconst 5, 1) := by decide +kernel
theorem dX8_tells_10 : decode cX8_tells 10 = .ok (.iload_n 2, 1) := by decide +kernel
theorem dX8_tells_11 : decode cX8_tells 11 = .ok (.iadd, 1) := by decide +kernel
theorem dX8_tells_12 : decode cX8_tells 12 = .ok (.invokevirtual 60, 3) := by decide +kernel
theorem dX8_tells_15 : decode cX8_tells 15 = .ok (.istore 4, 2) := by decide +kernel
theorem dX8_tells_17 : decode cX8_tells 17 = .ok (.iload_n 3, 1) := by decide +kernel
theorem dX8_tells_18 : decode cX8_tells 18 = .ok (.iconst 3, 1) := by decide +kernel
theorem dX8_tells_19 : decode cX8_tells 19 = .ok (.if_icmp .ne 15, 3) := by decide +kernel
theorem dX8_tells_22 : decode cX8_tells 22 = .ok (.iload 4, 2) := by decide +kernel
theorem dX8_tells_24 : decode cX8_tells 24 = .ok (.aload_n 0, 1) := by decide +kernel
theorem dX8_tells_25 : decode cX8_tells 25 = .ok (.iload_n 1, 1) := by decide +kernel
theorem dX8_tells_26 : decode cX8_tells 26 = .ok (.iconst 1, 1) := by decide +kernel
theorem dX8_tells_27 : decode cX8_tells 27 = .ok (.invokevirtual 60, 3) := by decide +kernel
theorem dX8_tells_30 : decode cX8_tells 30 = .ok (.iadd, 1) := by decide +kernel
theorem dX8_tells_31 : decode cX8_tells 31 = .ok (.goto 19, 3) := by decide +kernel
theorem dX8_tells_34 : decode cX8_tells 34 = .ok (.iload_n 3, 1) := by decide +kernel
theorem dX8_tells_35 : decode cX8_tells 35 = .ok (.iconst 4, 1) := by decide +kernel
theorem dX8_tells_36 : decode cX8_tells 36 = .ok (.if_icmp .ne 12, 3) := by decide +kernel
theorem dX8_tells_39 : decode cX8_tells 39 = .ok (.iload 4, 2) := by decide +kernel
theorem dX8_tells_41 : decode cX8_tells 41 = .ok (.iload_n 2, 1) := by decide +kernel
theorem dX8_tells_42 : decode cX8_tells 42 = .ok (.iconst 2, 1) := by decide +kernel
theorem dX8_tells_43 : decode cX8_tells 43 = .ok (.irem, 1) := by decide +kernel
theorem dX8_tells_44 : decode cX8_tells 44 = .ok (.iadd, 1) := by decide +kernel
theorem dX8_tells_45 : decode cX8_tells 45 = .ok (.goto 5, 3) := by decide +kernel
theorem dX8_tells_48 : decode cX8_tells 48 = .ok (.iload 4, 2) := by decide +kernel
theorem dX8_tells_50 : decode cX8_tells 50 = .ok (.iconst 0, 1) := by decide +kernel
theorem dX8_tells_51 : decode cX8_tells 51 = .ok (.sipush 999, 3) := by decide +kernel
theorem dX8_tells_54 : decode cX8_tells 54 = .ok (.invokestatic 75, 3) := by decide +kernel
theorem dX8_tells_57 : decode cX8_tells 57 = .ok (.ireturn, 1) := by decide +kernel
theorem dX8_isMute_0 : decode cX8_isMute 0 = .ok (.aload_n 0, 1) := by decide +kernel
theorem dX8_isMute_1 : decode cX8_isMute 1 = .ok (.iload_n 1, 1) := by decide +kernel
theorem dX8_isMute_2 : decode cX8_isMute 2 = .ok (.iconst 0, 1) := by decide +kernel
theorem dX8_isMute_3 : decode cX8_isMute 3 = .ok (.invokevirtual 60, 3) := by decide +kernel
theorem dX8_isMute_6 : decode cX8_isMute 6 = .ok (.iconst 2, 1) := by decide +kernel
theorem dX8_isMute_7 : decode cX8_isMute 7 = .ok (.if_icmp .eq 13, 3) := by decide +kernel
theorem dX8_isMute_10 : decode cX8_isMute 10 = .ok (.aload_n 0, 1) := by decide +kernel
theorem dX8_isMute_11 : decode cX8_isMute 11 = .ok (.iload_n 1, 1) := by decide +kernel
theorem dX8_isMute_12 : decode cX8_isMute 12 = .ok (.iconst 0, 1) := by decide +kernel
theorem dX8_isMute_13 : decode cX8_isMute 13 = .ok (.invokevirtual 60, 3) := by decide +kernel
theorem dX8_isMute_16 : decode cX8_isMute 16 = .ok (.iconst 5, 1) := by decide +kernel
theorem dX8_isMute_17 : decode cX8_isMute 17 = .ok (.if_icmp .ne 7, 3) := by decide +kernel
theorem dX8_isMute_20 : decode cX8_isMute 20 = .ok (.iconst 1, 1) := by decide +kernel
theorem dX8_isMute_21 : decode cX8_isMute 21 = .ok (.goto 4, 3) := by decide +kernel
theorem dX8_isMute_24 : decode cX8_isMute 24 = .ok (.iconst 0, 1) := by decide +kernel
theorem dX8_isMute_25 : decode cX8_isMute 25 = .ok (.ireturn, 1) := by decide +kernel
theorem dX8_isStaying_0 : decode cX8_isStaying 0 = .ok (.aload_n 0, 1) := by decide +kernel
theorem dX8_isStaying_1 : decode cX8_isStaying 1 = .ok (.iload_n 1, 1) := by decide +kernel
theorem dX8_isStaying_2 : decode cX8_isStaying 2 = .ok (.iconst 0, 1) := by decide +kernel
theorem dX8_isStaying_3 : decode cX8_isStaying 3 = .ok (.invokevirtual 60, 3) := by decide +kernel
theorem dX8_isStaying_6 : decode cX8_isStaying 6 = .ok (.iconst 5, 1) := by decide +kernel
theorem dX8_isStaying_7 : decode cX8_isStaying 7 = .ok (.if_icmp .ne 25, 3) := by decide +kernel
theorem dX8_isStaying_10 : decode cX8_isStaying 10 = .ok (.aload_n 0, 1) := by decide +kernel
theorem dX8_isStaying_11 : decode cX8_isStaying 11 = .ok (.getfield 7, 3) := by decide +kernel
theorem dX8_isStaying_14 : decode cX8_isStaying 14 = .ok (.iconst 3, 1) := by decide +kernel
theorem dX8_isStaying_15 : decode cX8_isStaying 15 = .ok (.iaload, 1) := by decide +kernel
theorem dX8_isStaying_16 : decode cX8_isStaying 16 = .ok (.aload_n 0, 1) := by decide +kernel
theorem dX8_isStaying_17 : decode cX8_isStaying 17 = .ok (.iload_n 1, 1) := by decide +kernel
theorem dX8_isStaying_18 : decode cX8_isStaying 18 = .ok (.iconst 1, 1) := by decide +kernel
theorem dX8_isStaying_19 : decode cX8_isStaying 19 = .ok (.invokevirtual 60, 3) := by decide +kernel
theorem dX8_isStaying_22 : decode cX8_isStaying 22 = .ok (.iconst 2, 1) := by decide +kernel
theorem dX8_isStaying_23 : decode cX8_isStaying 23 = .ok (.iadd, 1) := by decide +kernel
theorem dX8_isStaying_24 : decode cX8_isStaying 24 = .ok (.irem, 1) := by decide +kernel
theorem dX8_isStaying_25 : decode cX8_isStaying 25 = .ok (.ifCond .ne 7, 3) := by decide +kernel
theorem dX8_isStaying_28 : decode cX8_isStaying 28 = .ok (.iconst 1, 1) := by decide +kernel
theorem dX8_isStaying_29 : decode cX8_isStaying 29 = .ok (.goto 4, 3) := by decide +kernel
theorem dX8_isStaying_32 : decode cX8_isStaying 32 = .ok (.iconst 0, 1) := by decide +kernel
theorem dX8_isStaying_33 : decode cX8_isStaying 33 = .ok (.ireturn, 1) := by decide +kernel
theorem dX8_wagesOf_0 : decode cX8_wagesOf 0 = .ok (.aload_n 0, 1) := by decide +kernel
theorem dX8_wagesOf_1 : decode cX8_wagesOf 1 = .ok (.iload_n 1, 1) := by decide +kernel
theorem dX8_wagesOf_2 : decode cX8_wagesOf 2 = .ok (.iconst 3, 1) := by decide +kernel
theorem dX8_wagesOf_3 : decode cX8_wagesOf 3 = .ok (.invokevirtual 60, 3) := by decide +kernel
theorem dX8_wagesOf_6 : decode cX8_wagesOf 6 = .ok (.invokestatic 67, 3) := by decide +kernel
theorem dX8_wagesOf_9 : decode cX8_wagesOf 9 = .ok (.istore_n 2, 1) := by decide +kernel
theorem dX8_wagesOf_10 : decode cX8_wagesOf 10 = .ok (.aload_n 0, 1) := by decide +kernel
theorem dX8_wagesOf_11 : decode cX8_wagesOf 11 = .ok (.iload_n 1, 1) := by decide +kernel
theorem dX8_wagesOf_12 : decode cX8_wagesOf 12 = .ok (.iconst 2, 1) := by decide +kernel
theorem dX8_wagesOf_13 : decode cX8_wagesOf 13 = .ok (.invokevirtual 60, 3) := by decide +kernel
theorem dX8_wagesOf_16 : decode cX8_wagesOf 16 = .ok (.ifCond .ge 7, 3) := by decide +kernel
theorem dX8_wagesOf_19 : decode cX8_wagesOf 19 = .ok (.iconst 0, 1) := by decide +kernel
theorem dX8_wagesOf_20 : decode cX8_wagesOf 20 = .ok (.goto 16, 3) := by decide +kernel
theorem dX8_wagesOf_23 : decode cX8_wagesOf 23 = .ok (.aload_n 0, 1) := by decide +kernel
theorem dX8_wagesOf_24 : decode cX8_wagesOf 24 = .ok (.getfield 7, 3) := by decide +kernel
theorem dX8_wagesOf_27 : decode cX8_wagesOf 27 = .ok (.iconst 3, 1) := by decide +kernel
theorem dX8_wagesOf_28 : decode cX8_wagesOf 28 = .ok (.iaload, 1) := by decide +kernel
theorem dX8_wagesOf_29 : decode cX8_wagesOf 29 = .ok (.aload_n 0, 1) := by decide +kernel
theorem dX8_wagesOf_30 : decode cX8_wagesOf 30 = .ok (.iload_n 1, 1) := by decide +kernel
theorem dX8_wagesOf_31 : decode cX8_wagesOf 31 = .ok (.iconst 2, 1) := by decide +kernel
theorem dX8_wagesOf_32 : decode cX8_wagesOf 32 = .ok (.invokevirtual 60, 3) := by decide +kernel
theorem dX8_wagesOf_35 : decode cX8_wagesOf 35 = .ok (.isub, 1) := by decide +kernel
theorem dX8_wagesOf_36 : decode cX8_wagesOf 36 = .ok (.istore_n 3, 1) := by decide +kernel
theorem dX8_wagesOf_37 : decode cX8_wagesOf 37 = .ok (.aload_n 0, 1) := by decide +kernel
theorem dX8_wagesOf_38 : decode cX8_wagesOf 38 = .ok (.getfield 7, 3) := by decide +kernel
theorem dX8_wagesOf_41 : decode cX8_wagesOf 41 = .ok (.bipush 10, 2) := by decide +kernel
theorem dX8_wagesOf_43 : decode cX8_wagesOf 43 = .ok (.iaload, 1) := by decide +kernel
theorem dX8_wagesOf_44 : decode cX8_wagesOf 44 = .ok (.ifCond .ne 9, 3) := by decide +kernel
theorem dX8_wagesOf_47 : decode cX8_wagesOf 47 = .ok (.iconst 1, 1) := by decide +kernel
theorem dX8_wagesOf_48 : decode cX8_wagesOf 48 = .ok (.iload_n 2, 1) := by decide +kernel
theorem dX8_wagesOf_49 : decode cX8_wagesOf 49 = .ok (.iadd, 1) := by decide +kernel
theorem dX8_wagesOf_50 : decode cX8_wagesOf 50 = .ok (.goto 24, 3) := by decide +kernel
theorem dX8_wagesOf_53 : decode cX8_wagesOf 53 = .ok (.aload_n 0, 1) := by decide +kernel
theorem dX8_wagesOf_54 : decode cX8_wagesOf 54 = .ok (.iconst 1, 1) := by decide +kernel
theorem dX8_wagesOf_55 : decode cX8_wagesOf 55 = .ok (.aload_n 0, 1) := by decide +kernel
theorem dX8_wagesOf_56 : decode cX8_wagesOf 56 = .ok (.iload_n 1, 1) := by decide +kernel
theorem dX8_wagesOf_57 : decode cX8_wagesOf 57 = .ok (.iconst 0, 1) := by decide +kernel
theorem dX8_wagesOf_58 : decode cX8_wagesOf 58 = .ok (.invokevirtual 60, 3) := by decide +kernel
theorem dX8_wagesOf_61 : decode cX8_wagesOf 61 = .ok (.iload_n 2, 1) := by decide +kernel
theorem dX8_wagesOf_62 : decode cX8_wagesOf 62 = .ok (.iconst 0, 1) := by decide +kernel
theorem dX8_wagesOf_63 : decode cX8_wagesOf 63 = .ok (.iload_n 3, 1) := by decide +kernel
theorem dX8_wagesOf_64 : decode cX8_wagesOf 64 = .ok (.invokevirtual 71, 3) := by decide +kernel
theorem dX8_wagesOf_67 : decode cX8_wagesOf 67 = .ok (.iconst 0, 1) := by decide +kernel
theorem dX8_wagesOf_68 : decode cX8_wagesOf 68 = .ok (.sipush 999, 3) := by decide +kernel
theorem dX8_wagesOf_71 : decode cX8_wagesOf 71 = .ok (.invokestatic 75, 3) := by decide +kernel
theorem dX8_wagesOf_74 : decode cX8_wagesOf 74 = .ok (.ireturn, 1) := by decide +kernel
theorem dX8_comes_0 : decode cX8_comes 0 = .ok (.aload_n 0, 1) := by decide +kernel
theorem dX8_comes_1 : decode cX8_comes 1 = .ok (.getfield 7, 3) := by decide +kernel
theorem dX8_comes_4 : decode cX8_comes 4 = .ok (.iload_n 1, 1) := by decide +kernel
theorem dX8_comes_5 : decode cX8_comes 5 = .ok (.iconst 0, 1) := by decide +kernel
theorem dX8_comes_6 : decode cX8_comes 6 = .ok (.invokestatic 56, 3) := by decide +kernel
theorem dX8_comes_9 : decode cX8_comes 9 = .ok (.iload_n 2, 1) := by decide +kernel
theorem dX8_comes_10 : decode cX8_comes 10 = .ok (.bipush 10, 2) := by decide +kernel
theorem dX8_comes_12 : decode cX8_comes 12 = .ok (.idiv, 1) := by decide +kernel
theorem dX8_comes_13 : decode cX8_comes 13 = .ok (.iastore, 1) := by decide +kernel
theorem dX8_comes_14 : decode cX8_comes 14 = .ok (.aload_n 0, 1) := by decide +kernel
theorem dX8_comes_15 : decode cX8_comes 15 = .ok (.getfield 7, 3) := by decide +kernel
theorem dX8_comes_18 : decode cX8_comes 18 = .ok (.iload_n 1, 1) := by decide +kernel
theorem dX8_comes_19 : decode cX8_comes 19 = .ok (.iconst 1, 1) := by decide +kernel
theorem dX8_comes_20 : decode cX8_comes 20 = .ok (.invokestatic 56, 3) := by decide +kernel
theorem dX8_comes_23 : decode cX8_comes 23 = .ok (.iload_n 2, 1) := by decide +kernel
theorem dX8_comes_24 : decode cX8_comes 24 = .ok (.bipush 10, 2) := by decide +kernel
theorem dX8_comes_26 : decode cX8_comes 26 = .ok (.irem, 1) := by decide +kernel
theorem dX8_comes_27 : decode cX8_comes 27 = .ok (.iastore, 1) := by decide +kernel
theorem dX8_comes_28 : decode cX8_comes 28 = .ok (.aload_n 0, 1) := by decide +kernel
theorem dX8_comes_29 : decode cX8_comes 29 = .ok (.getfield 7, 3) := by decide +kernel
theorem dX8_comes_32 : decode cX8_comes 32 = .ok (.iload_n 1, 1) := by decide +kernel
theorem dX8_comes_33 : decode cX8_comes 33 = .ok (.iconst 2, 1) := by decide +kernel
theorem dX8_comes_34 : decode cX8_comes 34 = .ok (.invokestatic 56, 3) := by decide +kernel
theorem dX8_comes_37 : decode cX8_comes 37 = .ok (.iload 5, 2) := by decide +kernel
theorem dX8_comes_39 : decode cX8_comes 39 = .ok (.iastore, 1) := by decide +kernel
theorem dX8_comes_40 : decode cX8_comes 40 = .ok (.aload_n 0, 1) := by decide +kernel
theorem dX8_comes_41 : decode cX8_comes 41 = .ok (.getfield 7, 3) := by decide +kernel
theorem dX8_comes_44 : decode cX8_comes 44 = .ok (.iload_n 1, 1) := by decide +kernel
theorem dX8_comes_45 : decode cX8_comes 45 = .ok (.iconst 3, 1) := by decide +kernel
theorem dX8_comes_46 : decode cX8_comes 46 = .ok (.invokestatic 56, 3) := by decide +kernel
theorem dX8_comes_49 : decode cX8_comes 49 = .ok (.iload_n 3, 1) := by decide +kernel
theorem dX8_comes_50 : decode cX8_comes 50 = .ok (.iload 4, 2) := by decide +kernel
theorem dX8_comes_52 : decode cX8_comes 52 = .ok (.ior, 1) := by decide +kernel
theorem dX8_comes_53 : decode cX8_comes 53 = .ok (.iastore, 1) := by decide +kernel
theorem dX8_comes_54 : decode cX8_comes 54 = .ok (.iconst 0, 1) := by decide +kernel
theorem dX8_comes_55 : decode cX8_comes 55 = .ok (.istore 6, 2) := by decide +kernel
theorem dX8_comes_57 : decode cX8_comes 57 = .ok (.iload 6, 2) := by decide +kernel
theorem dX8_comes_59 : decode cX8_comes 59 = .ok (.bipush 6, 2) := by decide +kernel
theorem dX8_comes_61 : decode cX8_comes 61 = .ok (.if_icmp .ge 51, 3) := by decide +kernel
theorem dX8_comes_64 : decode cX8_comes 64 = .ok (.aload_n 0, 1) := by decide +kernel
theorem dX8_comes_65 : decode cX8_comes 65 = .ok (.getfield 7, 3) := by decide +kernel
theorem dX8_comes_68 : decode cX8_comes 68 = .ok (.iload_n 1, 1) := by decide +kernel
theorem dX8_comes_69 : decode cX8_comes 69 = .ok (.iconst 5, 1) := by decide +kernel
theorem dX8_comes_70 : decode cX8_comes 70 = .ok (.iload 6, 2) := by decide +kernel
theorem dX8_comes_72 : decode cX8_comes 72 = .ok (.iadd, 1) := by decide +kernel
theorem dX8_comes_73 : decode cX8_comes 73 = .ok (.invokestatic 56, 3) := by decide +kernel
theorem dX8_comes_76 : decode cX8_comes 76 = .ok (.iload_n 3, 1) := by decide +kernel
theorem dX8_comes_77 : decode cX8_comes 77 = .ok (.iload 6, 2) := by decide +kernel
theorem dX8_comes_79 : decode cX8_comes 79 = .ok (.invokestatic 63, 3) := by decide +kernel
theorem dX8_comes_82 : decode cX8_comes 82 = .ok (.ifCond .eq 7, 3) := by decide +kernel
theorem dX8_comes_85 : decode cX8_comes 85 = .ok (.iconst 1, 1) := by decide +kernel
theorem dX8_comes_86 : decode cX8_comes 86 = .ok (.goto 4, 3) := by decide +kernel
theorem dX8_comes_89 : decode cX8_comes 89 = .ok (.iconst 0, 1) := by decide +kernel
theorem dX8_comes_90 : decode cX8_comes 90 = .ok (.iastore, 1) := by decide +kernel
theorem dX8_comes_91 : decode cX8_comes 91 = .ok (.aload_n 0, 1) := by decide +kernel
theorem dX8_comes_92 : decode cX8_comes 92 = .ok (.getfield 7, 3) := by decide +kernel
theorem dX8_comes_95 : decode cX8_comes 95 = .ok (.iload_n 1, 1) := by decide +kernel
theorem dX8_comes_96 : decode cX8_comes 96 = .ok (.bipush 11, 2) := by decide +kernel
theorem dX8_comes_98 : decode cX8_comes 98 = .ok (.iload 6, 2) := by decide +kernel
theorem dX8_comes_100 : decode cX8_comes 100 = .ok (.iadd, 1) := by decide +kernel
theorem dX8_comes_101 : decode cX8_comes 101 = .ok (.invokestatic 56, 3) := by decide +kernel
theorem dX8_comes_104 : decode cX8_comes 104 = .ok (.iconst 0, 1) := by decide +kernel
theorem dX8_comes_105 : decode cX8_comes 105 = .ok (.iastore, 1) := by decide +kernel
theorem dX8_comes_106 : decode cX8_comes 106 = .ok (.iinc 6 1, 3) := by decide +kernel
theorem dX8_comes_109 : decode cX8_comes 109 = .ok (.goto (-52), 3) := by decide +kernel
theorem dX8_comes_112 : decode cX8_comes 112 = .ok (.return_, 1) := by decide +kernel
theorem dX8_isMan_0 : decode cX8_isMan 0 = .ok (.iload_n 0, 1) := by decide +kernel
theorem dX8_isMan_1 : decode cX8_isMan 1 = .ok (.i2l, 1) := by decide +kernel
theorem dX8_isMan_2 : decode cX8_isMan 2 = .ok (.lconst 0, 1) := by decide +kernel
theorem dX8_isMan_3 : decode cX8_isMan 3 = .ok (.ldc2_w 78, 3) := by decide +kernel
theorem dX8_isMan_6 : decode cX8_isMan 6 = .ok (.invokestatic 44, 3) := by decide +kernel
theorem dX8_isMan_9 : decode cX8_isMan 9 = .ok (.ireturn, 1) := by decide +kernel
theorem dX8_bunk_0 : decode cX8_bunk 0 = .ok (.iload_n 1, 1) := by decide +kernel
theorem dX8_bunk_1 : decode cX8_bunk 1 = .ok (.invokestatic 80, 3) := by decide +kernel
theorem dX8_bunk_4 : decode cX8_bunk 4 = .ok (.ifCond .ne 10, 3) := by decide +kernel
theorem dX8_bunk_7 : decode cX8_bunk 7 = .ok (.aload_n 0, 1) := by decide +kernel
theorem dX8_bunk_8 : decode cX8_bunk 8 = .ok (.ldc 43, 2) := by decide +kernel
theorem dX8_bunk_10 : decode cX8_bunk 10 = .ok (.invokevirtual 84, 3) := by decide +kernel
theorem dX8_bunk_13 : decode cX8_bunk 13 = .ok (.ireturn, 1) := by decide +kernel
theorem dX8_bunk_14 : decode cX8_bunk 14 = .ok (.aload_n 0, 1) := by decide +kernel
theorem dX8_bunk_15 : decode cX8_bunk 15 = .ok (.getfield 7, 3) := by decide +kernel
theorem dX8_bunk_18 : decode cX8_bunk 18 = .ok (.iconst 0, 1) := by decide +kernel
theorem dX8_bunk_19 : decode cX8_bunk 19 = .ok (.iaload, 1) := by decide +kernel
theorem dX8_bunk_20 : decode cX8_bunk 20 = .ok (.bipush 6, 2) := by decide +kernel
theorem dX8_bunk_22 : decode cX8_bunk 22 = .ok (.if_icmp .ne 10, 3) := by decide +kernel
theorem dX8_bunk_25 : decode cX8_bunk 25 = .ok (.aload_n 0, 1) := by decide +kernel
theorem dX8_bunk_26 : decode cX8_bunk 26 = .ok (.ldc 87, 2) := by decide +kernel
theorem dX8_bunk_28 : decode cX8_bunk 28 = .ok (.invokevirtual 84, 3) := by decide +kernel
theorem dX8_bunk_31 : decode cX8_bunk 31 = .ok (.ireturn, 1) := by decide +kernel
theorem dX8_bunk_32 : decode cX8_bunk 32 = .ok (.aload_n 0, 1) := by decide +kernel
theorem dX8_bunk_33 : decode cX8_bunk 33 = .ok (.getfield 7, 3) := by decide +kernel
theorem dX8_bunk_36 : decode cX8_bunk 36 = .ok (.iconst 0, 1) := by decide +kernel
theorem dX8_bunk_37 : decode cX8_bunk 37 = .ok (.iaload, 1) := by decide +kernel
theorem dX8_bunk_38 : decode cX8_bunk 38 = .ok (.istore_n 2, 1) := by decide +kernel
theorem dX8_bunk_39 : decode cX8_bunk 39 = .ok (.aload_n 0, 1) := by decide +kernel
theorem dX8_bunk_40 : decode cX8_bunk 40 = .ok (.iload_n 2, 1) := by decide +kernel
theorem dX8_bunk_41 : decode cX8_bunk 41 = .ok (.iload_n 1, 1) := by decide +kernel
theorem dX8_bunk_42 : decode cX8_bunk 42 = .ok (.iconst 0, 1) := by decide +kernel
theorem dX8_bunk_43 : decode cX8_bunk 43 = .ok (.iconst 0, 1) := by decide +kernel
theorem dX8_bunk_44 : decode cX8_bunk 44 = .ok (.iconst (-1), 1) := by decide +kernel
theorem dX8_bunk_45 : decode cX8_bunk 45 = .ok (.invokevirtual 88, 3) := by decide +kernel
theorem dX8_bunk_48 : decode cX8_bunk 48 = .ok (.aload_n 0, 1) := by decide +kernel
theorem dX8_bunk_49 : decode cX8_bunk 49 = .ok (.getfield 7, 3) := by decide +kernel
theorem dX8_bunk_52 : decode cX8_bunk 52 = .ok (.iload_n 2, 1) := by decide +kernel
theorem dX8_bunk_53 : decode cX8_bunk 53 = .ok (.iconst 4, 1) := by decide +kernel
theorem dX8_bunk_54 : decode cX8_bunk 54 = .ok (.invokestatic 56, 3) := by decide +kernel
theorem dX8_bunk_57 : decode cX8_bunk 57 = .ok (.iconst (-1), 1) := by decide +kernel
theorem dX8_bunk_58 : decode cX8_bunk 58 = .ok (.iastore, 1) := by decide +kernel
theorem dX8_bunk_59 : decode cX8_bunk 59 = .ok (.aload_n 0, 1) := by decide +kernel
theorem dX8_bunk_60 : decode cX8_bunk 60 = .ok (.getfield 7, 3) := by decide +kernel
theorem dX8_bunk_63 : decode cX8_bunk 63 = .ok (.iconst 0, 1) := by decide +kernel
theorem dX8_bunk_64 : decode cX8_bunk 64 = .ok (.dup2, 1) := by decide +kernel
theorem dX8_bunk_65 : decode cX8_bunk 65 = .ok (.iaload, 1) := by decide +kernel
theorem dX8_bunk_66 : decode cX8_bunk 66 = .ok (.iconst 1, 1) := by decide +kernel
theorem dX8_bunk_67 : decode cX8_bunk 67 = .ok (.iadd, 1) := by decide +kernel
theorem dX8_bunk_68 : decode cX8_bunk 68 = .ok (.iastore, 1) := by decide +kernel
theorem dX8_bunk_69 : decode cX8_bunk 69 = .ok (.iload_n 2, 1) := by decide +kernel
theorem dX8_bunk_70 : decode cX8_bunk 70 = .ok (.ireturn, 1) := by decide +kernel
theorem dX8_ofMan_0 : decode cX8_ofMan 0 = .ok (.iload_n 2, 1) := by decide +kernel
theorem dX8_ofMan_1 : decode cX8_ofMan 1 = .ok (.iconst 5, 1) := by decide +kernel
theorem dX8_ofMan_2 : decode cX8_ofMan 2 = .ok (.if_icmp .ge 12, 3) := by decide +kernel
theorem dX8_ofMan_5 : decode cX8_ofMan 5 = .ok (.aload_n 0, 1) := by decide +kernel
theorem dX8_ofMan_6 : decode cX8_ofMan 6 = .ok (.iload_n 1, 1) := by decide +kernel
theorem dX8_ofMan_7 : decode cX8_ofMan 7 = .ok (.iload_n 2, 1) := by decide +kernel
theorem dX8_ofMan_8 : decode cX8_ofMan 8 = .ok (.invokevirtual 60, 3) := by decide +kernel
theorem dX8_ofMan_11 : decode cX8_ofMan 11 = .ok (.goto 42, 3) := by decide +kernel
theorem dX8_ofMan_14 : decode cX8_ofMan 14 = .ok (.iload_n 2, 1) := by decide +kernel
theorem dX8_ofMan_15 : decode cX8_ofMan 15 = .ok (.iconst 5, 1) := by decide +kernel
theorem dX8_ofMan_16 : decode cX8_ofMan 16 = .ok (.if_icmp .ne 11, 3) := by decide +kernel
theorem dX8_ofMan_19 : decode cX8_ofMan 19 = .ok (.aload_n 0, 1) := by decide +kernel
theorem dX8_ofMan_20 : decode cX8_ofMan 20 = .ok (.iload_n 1, 1) := by decide +kernel
theorem dX8_ofMan_21 : decode cX8_ofMan 21 = .ok (.invokevirtual 92, 3) := by decide +kernel
theorem dX8_ofMan_24 : decode cX8_ofMan 24 = .ok (.goto 29, 3) := by decide +kernel
theorem dX8_ofMan_27 : decode cX8_ofMan 27 = .ok (.iload_n 2, 1) := by decide +kernel
theorem dX8_ofMan_28 : decode cX8_ofMan 28 = .ok (.bipush 18, 2) := by decide +kernel
theorem dX8_ofMan_30 : decode cX8_ofMan 30 = .ok (.if_icmp .ge 14, 3) := by decide +kernel
theorem dX8_ofMan_33 : decode cX8_ofMan 33 = .ok (.aload_n 0, 1) := by decide +kernel
theorem dX8_ofMan_34 : decode cX8_ofMan 34 = .ok (.iload_n 1, 1) := by decide +kernel
theorem dX8_ofMan_35 : decode cX8_ofMan 35 = .ok (.iload_n 2, 1) := by decide +kernel
theorem dX8_ofMan_36 : decode cX8_ofMan 36 = .ok (.iconst 1, 1) := by decide +kernel
theorem dX8_ofMan_37 : decode cX8_ofMan 37 = .ok (.isub, 1) := by decide +kernel
theorem dX8_ofMan_38 : decode cX8_ofMan 38 = .ok (.invokevirtual 60, 3) := by decide +kernel
theorem dX8_ofMan_41 : decode cX8_ofMan 41 = .ok (.goto 12, 3) := by decide +kernel
theorem dX8_ofMan_44 : decode cX8_ofMan 44 = .ok (.aload_n 0, 1) := by decide +kernel
theorem dX8_ofMan_45 : decode cX8_ofMan 45 = .ok (.iload_n 1, 1) := by decide +kernel
theorem dX8_ofMan_46 : decode cX8_ofMan 46 = .ok (.iload_n 2, 1) := by decide +kernel
theorem dX8_ofMan_47 : decode cX8_ofMan 47 = .ok (.bipush 18, 2) := by decide +kernel
theorem dX8_ofMan_49 : decode cX8_ofMan 49 = .ok (.isub, 1) := by decide +kernel
theorem dX8_ofMan_50 : decode cX8_ofMan 50 = .ok (.invokevirtual 95, 3) := by decide +kernel
theorem dX8_ofMan_53 : decode cX8_ofMan 53 = .ok (.ireturn, 1) := by decide +kernel
theorem dX8_bunkIs_0 : decode cX8_bunkIs 0 = .ok (.aload_n 0, 1) := by decide +kernel
theorem dX8_bunkIs_1 : decode cX8_bunkIs 1 = .ok (.iload_n 1, 1) := by decide +kernel
theorem dX8_bunkIs_2 : decode cX8_bunkIs 2 = .ok (.invokevirtual 98, 3) := by decide +kernel
theorem dX8_bunkIs_5 : decode cX8_bunkIs 5 = .ok (.ifCond .eq 24, 3) := by decide +kernel
theorem dX8_bunkIs_8 : decode cX8_bunkIs 8 = .ok (.iload_n 2, 1) := by decide +kernel
theorem dX8_bunkIs_9 : decode cX8_bunkIs 9 = .ok (.i2l, 1) := by decide +kernel
theorem dX8_bunkIs_10 : decode cX8_bunkIs 10 = .ok (.lconst 0, 1) := by decide +kernel
theorem dX8_bunkIs_11 : decode cX8_bunkIs 11 = .ok (.ldc2_w 101, 3) := by decide +kernel
theorem dX8_bunkIs_14 : decode cX8_bunkIs 14 = .ok (.invokestatic 44, 3) := by decide +kernel
theorem dX8_bunkIs_17 : decode cX8_bunkIs 17 = .ok (.ifCond .eq 12, 3) := by decide +kernel
theorem dX8_bunkIs_20 : decode cX8_bunkIs 20 = .ok (.aload_n 0, 1) := by decide +kernel
theorem dX8_bunkIs_21 : decode cX8_bunkIs 21 = .ok (.iload_n 1, 1) := by decide +kernel
theorem dX8_bunkIs_22 : decode cX8_bunkIs 22 = .ok (.iload_n 2, 1) := by decide +kernel
theorem dX8_bunkIs_23 : decode cX8_bunkIs 23 = .ok (.invokevirtual 103, 3) := by decide +kernel
theorem dX8_bunkIs_26 : decode cX8_bunkIs 26 = .ok (.goto 9, 3) := by decide +kernel
theorem dX8_bunkIs_29 : decode cX8_bunkIs 29 = .ok (.aload_n 0, 1) := by decide +kernel
theorem dX8_bunkIs_30 : decode cX8_bunkIs 30 = .ok (.ldc 43, 2) := by decide +kernel
theorem dX8_bunkIs_32 : decode cX8_bunkIs 32 = .ok (.invokevirtual 84, 3) := by decide +kernel
theorem dX8_bunkIs_35 : decode cX8_bunkIs 35 = .ok (.ireturn, 1) := by decide +kernel
theorem dX8_as_0 : decode cX8_as 0 = .ok (.aload_n 0, 1) := by decide +kernel
theorem dX8_as_1 : decode cX8_as 1 = .ok (.iload_n 1, 1) := by decide +kernel
theorem dX8_as_2 : decode cX8_as 2 = .ok (.invokevirtual 98, 3) := by decide +kernel
theorem dX8_as_5 : decode cX8_as 5 = .ok (.ifCond .eq 15, 3) := by decide +kernel
theorem dX8_as_8 : decode cX8_as 8 = .ok (.iload_n 2, 1) := by decide +kernel
theorem dX8_as_9 : decode cX8_as 9 = .ok (.i2l, 1) := by decide +kernel
theorem dX8_as_10 : decode cX8_as 10 = .ok (.lconst 0, 1) := by decide +kernel
theorem dX8_as_11 : decode cX8_as 11 = .ok (.ldc2_w 106, 3) := by decide +kernel
theorem dX8_as_14 : decode cX8_as 14 = .ok (.invokestatic 44, 3) := by decide +kernel
theorem dX8_as_17 : decode cX8_as 17 = .ok (.ifCond .ne 10, 3) := by decide +kernel
theorem dX8_as_20 : decode cX8_as 20 = .ok (.aload_n 0, 1) := by decide +kernel
theorem dX8_as_21 : decode cX8_as 21 = .ok (.ldc 43, 2) := by decide +kernel
theorem dX8_as_23 : decode cX8_as 23 = .ok (.invokevirtual 84, 3) := by decide +kernel
theorem dX8_as_26 : decode cX8_as 26 = .ok (.ireturn, 1) := by decide +kernel
theorem dX8_as_27 : decode cX8_as 27 = .ok (.aload_n 0, 1) := by decide +kernel
theorem dX8_as_28 : decode cX8_as 28 = .ok (.iload_n 1, 1) := by decide +kernel
theorem dX8_as_29 : decode cX8_as 29 = .ok (.iconst 0, 1) := by decide +kernel
theorem dX8_as_30 : decode cX8_as 30 = .ok (.invokevirtual 60, 3) := by decide +kernel
theorem dX8_as_33 : decode cX8_as 33 = .ok (.istore_n 3, 1) := by decide +kernel
theorem dX8_as_34 : decode cX8_as 34 = .ok (.iload_n 2, 1) := by decide +kernel
theorem dX8_as_35 : decode cX8_as 35 = .ok (.ifCond .eq 28, 3) := by decide +kernel
theorem dX8_as_38 : decode cX8_as 38 = .ok (.iload_n 3, 1) := by decide +kernel
theorem dX8_as_39 : decode cX8_as 39 = .ok (.iload_n 2, 1) := by decide +kernel
theorem dX8_as_40 : decode cX8_as 40 = .ok (.if_icmp .eq 23, 3) := by decide +kernel
theorem dX8_as_43 : decode cX8_as 43 = .ok (.iload_n 2, 1) := by decide +kernel
theorem dX8_as_44 : decode cX8_as 44 = .ok (.iconst 1, 1) := by decide +kernel
theorem dX8_as_45 : decode cX8_as 45 = .ok (.if_icmp .ne 8, 3) := by decide +kernel
theorem dX8_as_48 : decode cX8_as 48 = .ok (.iload_n 3, 1) := by decide +kernel
theorem dX8_as_49 : decode cX8_as 49 = .ok (.iconst 4, 1) := by decide +kernel
theorem dX8_as_50 : decode cX8_as 50 = .ok (.if_icmp .eq 13, 3) := by decide +kernel
theorem dX8_as_53 : decode cX8_as 53 = .ok (.iload_n 2, 1) := by decide +kernel
theorem dX8_as_54 : decode cX8_as 54 = .ok (.iconst 2, 1) := by decide +kernel
theorem dX8_as_55 : decode cX8_as 55 = .ok (.if_icmp .ne 12, 3) := by decide +kernel
theorem dX8_as_58 : decode cX8_as 58 = .ok (.iload_n 3, 1) := by decide +kernel
theorem dX8_as_59 : decode cX8_as 59 = .ok (.iconst 5, 1) := by decide +kernel
theorem dX8_as_60 : decode cX8_as 60 = .ok (.if_icmp .ne 7, 3) := by decide +kernel
theorem dX8_as_63 : decode cX8_as 63 = .ok (.iconst 1, 1) := by decide +kernel
theorem dX8_as_64 : decode cX8_as 64 = .ok (.goto 4, 3) := by decide +kernel
theorem dX8_as_67 : decode cX8_as 67 = .ok (.iconst 0, 1) := by decide +kernel
theorem dX8_as_68 : decode cX8_as 68 = .ok (.istore 4, 2) := by decide +kernel
theorem dX8_as_70 : decode cX8_as 70 = .ok (.iload 4, 2) := by decide +kernel
theorem dX8_as_72 : decode cX8_as 72 = .ok (.ifCond .eq 12, 3) := by decide +kernel
theorem dX8_as_75 : decode cX8_as 75 = .ok (.aload_n 0, 1) := by decide +kernel
theorem dX8_as_76 : decode cX8_as 76 = .ok (.iload_n 1, 1) := by decide +kernel
theorem dX8_as_77 : decode cX8_as 77 = .ok (.iconst 3, 1) := by decide +kernel
theorem dX8_as_78 : decode cX8_as 78 = .ok (.invokevirtual 60, 3) := by decide +kernel
theorem dX8_as_81 : decode cX8_as 81 = .ok (.goto 9, 3) := by decide +kernel
theorem dX8_as_84 : decode cX8_as 84 = .ok (.aload_n 0, 1) := by decide +kernel
theorem dX8_as_85 : decode cX8_as 85 = .ok (.ldc 108, 2) := by decide +kernel
theorem dX8_as_87 : decode cX8_as 87 = .ok (.invokevirtual 84, 3) := by decide +kernel
theorem dX8_as_90 : decode cX8_as 90 = .ok (.ireturn, 1) := by decide +kernel
theorem dX8_set_0 : decode cX8_set 0 = .ok (.iload_n 2, 1) := by decide +kernel
theorem dX8_set_1 : decode cX8_set 1 = .ok (.ifCond .ne 15, 3) := by decide +kernel
theorem dX8_set_4 : decode cX8_set 4 = .ok (.iload_n 3, 1) := by decide +kernel
theorem dX8_set_5 : decode cX8_set 5 = .ok (.i2l, 1) := by decide +kernel
theorem dX8_set_6 : decode cX8_set 6 = .ok (.lconst 0, 1) := by decide +kernel
theorem dX8_set_7 : decode cX8_set 7 = .ok (.ldc2_w 106, 3) := by decide +kernel
theorem dX8_set_10 : decode cX8_set 10 = .ok (.invokestatic 44, 3) := by decide +kernel
theorem dX8_set_13 : decode cX8_set 13 = .ok (.goto 44, 3) := by decide +kernel
theorem dX8_set_16 : decode cX8_set 16 = .ok (.iload_n 2, 1) := by decide +kernel
theorem dX8_set_17 : decode cX8_set 17 = .ok (.iconst 1, 1) := by decide +kernel
theorem dX8_set_18 : decode cX8_set 18 = .ok (.if_icmp .ne 15, 3) := by decide +kernel
theorem dX8_set_21 : decode cX8_set 21 = .ok (.iload_n 3, 1) := by decide +kernel
theorem dX8_set_22 : decode cX8_set 22 = .ok (.i2l, 1) := by decide +kernel
theorem dX8_set_23 : decode cX8_set 23 = .ok (.lconst 0, 1) := by decide +kernel
theorem dX8_set_24 : decode cX8_set 24 = .ok (.ldc2_w 109, 3) := by decide +kernel
theorem dX8_set_27 : decode cX8_set 27 = .ok (.invokestatic 44, 3) := by decide +kernel
theorem dX8_set_30 : decode cX8_set 30 = .ok (.goto 27, 3) := by decide +kernel
theorem dX8_set_33 : decode cX8_set 33 = .ok (.iload_n 2, 1) := by decide +kernel
theorem dX8_set_34 : decode cX8_set 34 = .ok (.iconst 4, 1) := by decide +kernel
theorem dX8_set_35 : decode cX8_set 35 = .ok (.if_icmp .ne 21, 3) := by decide +kernel
theorem dX8_set_38 : decode cX8_set 38 = .ok (.iload_n 3, 1) := by decide +kernel
theorem dX8_set_39 : decode cX8_set 39 = .ok (.i2l, 1) := by decide +kernel
theorem dX8_set_40 : decode cX8_set 40 = .ok (.ldc2_w 111, 3) := by decide +kernel
theorem dX8_set_43 : decode cX8_set 43 = .ok (.ldc2_w 48, 3) := by decide +kernel
theorem dX8_set_46 : decode cX8_set 46 = .ok (.invokestatic 44, 3) := by decide +kernel
theorem dX8_set_49 : decode cX8_set 49 = .ok (.ifCond .eq 7, 3) := by decide +kernel
theorem dX8_set_52 : decode cX8_set 52 = .ok (.iconst 1, 1) := by decide +kernel
theorem dX8_set_53 : decode cX8_set 53 = .ok (.goto 4, 3) := by decide +kernel
theorem dX8_set_56 : decode cX8_set 56 = .ok (.iconst 0, 1) := by decide +kernel
theorem dX8_set_57 : decode cX8_set 57 = .ok (.istore 4, 2) := by decide +kernel
theorem dX8_set_59 : decode cX8_set 59 = .ok (.aload_n 0, 1) := by decide +kernel
theorem dX8_set_60 : decode cX8_set 60 = .ok (.iload_n 1, 1) := by decide +kernel
theorem dX8_set_61 : decode cX8_set 61 = .ok (.invokevirtual 98, 3) := by decide +kernel
theorem dX8_set_64 : decode cX8_set 64 = .ok (.ifCond .eq 8, 3) := by decide +kernel
theorem dX8_set_67 : decode cX8_set 67 = .ok (.iload 4, 2) := by decide +kernel
theorem dX8_set_69 : decode cX8_set 69 = .ok (.ifCond .ne 10, 3) := by decide +kernel
theorem dX8_set_72 : decode cX8_set 72 = .ok (.aload_n 0, 1) := by decide +kernel
theorem dX8_set_73 : decode cX8_set 73 = .ok (.ldc 43, 2) := by decide +kernel
theorem dX8_set_75 : decode cX8_set 75 = .ok (.invokevirtual 84, 3) := by decide +kernel
theorem dX8_set_78 : decode cX8_set 78 = .ok (.ireturn, 1) := by decide +kernel
theorem dX8_set_79 : decode cX8_set 79 = .ok (.aload_n 0, 1) := by decide +kernel
theorem dX8_set_80 : decode cX8_set 80 = .ok (.iload_n 1, 1) := by decide +kernel
theorem dX8_set_81 : decode cX8_set 81 = .ok (.iload_n 2, 1) := by decide +kernel
theorem dX8_set_82 : decode cX8_set 82 = .ok (.invokevirtual 60, 3) := by decide +kernel
theorem dX8_set_85 : decode cX8_set 85 = .ok (.istore 5, 2) := by decide +kernel
theorem dX8_set_87 : decode cX8_set 87 = .ok (.aload_n 0, 1) := by decide +kernel
theorem dX8_set_88 : decode cX8_set 88 = .ok (.getfield 7, 3) := by decide +kernel
theorem dX8_set_91 : decode cX8_set 91 = .ok (.iload_n 1, 1) := by decide +kernel
theorem dX8_set_92 : decode cX8_set 92 = .ok (.iload_n 2, 1) := by decide +kernel
theorem dX8_set_93 : decode cX8_set 93 = .ok (.invokestatic 56, 3) := by decide +kernel
theorem dX8_set_96 : decode cX8_set 96 = .ok (.iload_n 3, 1) := by decide +kernel
theorem dX8_set_97 : decode cX8_set 97 = .ok (.iastore, 1) := by decide +kernel
theorem dX8_set_98 : decode cX8_set 98 = .ok (.iload 5, 2) := by decide +kernel
theorem dX8_set_100 : decode cX8_set 100 = .ok (.ireturn, 1) := by decide +kernel
theorem dX8_know_0 : decode cX8_know 0 = .ok (.aload_n 0, 1) := by decide +kernel
theorem dX8_know_1 : decode cX8_know 1 = .ok (.iload_n 1, 1) := by decide +kernel
theorem dX8_know_2 : decode cX8_know 2 = .ok (.invokevirtual 98, 3) := by decide +kernel
theorem dX8_know_5 : decode cX8_know 5 = .ok (.ifCond .eq 24, 3) := by decide +kernel
theorem dX8_know_8 : decode cX8_know 8 = .ok (.iload_n 2, 1) := by decide +kernel
theorem dX8_know_9 : decode cX8_know 9 = .ok (.invokestatic 113, 3) := by decide +kernel
theorem dX8_know_12 : decode cX8_know 12 = .ok (.ifCond .eq 17, 3) := by decide +kernel
theorem dX8_know_15 : decode cX8_know 15 = .ok (.iload_n 3, 1) := by decide +kernel
theorem dX8_know_16 : decode cX8_know 16 = .ok (.i2l, 1) := by decide +kernel
theorem dX8_know_17 : decode cX8_know 17 = .ok (.ldc2_w 111, 3) := by decide +kernel
theorem dX8_know_20 : decode cX8_know 20 = .ok (.ldc2_w 116, 3) := by decide +kernel
theorem dX8_know_23 : decode cX8_know 23 = .ok (.invokestatic 44, 3) := by decide +kernel
theorem dX8_know_26 : decode cX8_know 26 = .ok (.ifCond .ne 10, 3) := by decide +kernel
theorem dX8_know_29 : decode cX8_know 29 = .ok (.aload_n 0, 1) := by decide +kernel
theorem dX8_know_30 : decode cX8_know 30 = .ok (.ldc 43, 2) := by decide +kernel
theorem dX8_know_32 : decode cX8_know 32 = .ok (.invokevirtual 84, 3) := by decide +kernel
theorem dX8_know_35 : decode cX8_know 35 = .ok (.ireturn, 1) := by decide +kernel
theorem dX8_know_36 : decode cX8_know 36 = .ok (.aload_n 0, 1) := by decide +kernel
theorem dX8_know_37 : decode cX8_know 37 = .ok (.iload_n 1, 1) := by decide +kernel
theorem dX8_know_38 : decode cX8_know 38 = .ok (.iload_n 2, 1) := by decide +kernel
theorem dX8_know_39 : decode cX8_know 39 = .ok (.invokevirtual 118, 3) := by decide +kernel
theorem dX8_know_42 : decode cX8_know 42 = .ok (.ifCond .eq 14, 3) := by decide +kernel
theorem dX8_know_45 : decode cX8_know 45 = .ok (.aload_n 0, 1) := by decide +kernel
theorem dX8_know_46 : decode cX8_know 46 = .ok (.iload_n 1, 1) := by decide +kernel
theorem dX8_know_47 : decode cX8_know 47 = .ok (.iconst 5, 1) := by decide +kernel
theorem dX8_know_48 : decode cX8_know 48 = .ok (.iload_n 2, 1) := by decide +kernel
theorem dX8_know_49 : decode cX8_know 49 = .ok (.iadd, 1) := by decide +kernel
theorem dX8_know_50 : decode cX8_know 50 = .ok (.invokevirtual 60, 3) := by decide +kernel
theorem dX8_know_53 : decode cX8_know 53 = .ok (.goto 4, 3) := by decide +kernel
theorem dX8_know_56 : decode cX8_know 56 = .ok (.iconst (-1), 1) := by decide +kernel
theorem dX8_know_57 : decode cX8_know 57 = .ok (.istore 4, 2) := by decide +kernel
theorem dX8_know_59 : decode cX8_know 59 = .ok (.iload_n 3, 1) := by decide +kernel
theorem dX8_know_60 : decode cX8_know 60 = .ok (.ifCond .ge 51, 3) := by decide +kernel
theorem dX8_know_63 : decode cX8_know 63 = .ok (.aload_n 0, 1) := by decide +kernel
theorem dX8_know_64 : decode cX8_know 64 = .ok (.getfield 7, 3) := by decide +kernel
theorem dX8_know_67 : decode cX8_know 67 = .ok (.iload_n 1, 1) := by decide +kernel
theorem dX8_know_68 : decode cX8_know 68 = .ok (.iconst 3, 1) := by decide +kernel
theorem dX8_know_69 : decode cX8_know 69 = .ok (.invokestatic 56, 3) := by decide +kernel
theorem dX8_know_72 : decode cX8_know 72 = .ok (.dup2, 1) := by decide +kernel
theorem dX8_know_73 : decode cX8_know 73 = .ok (.iaload, 1) := by decide +kernel
theorem dX8_know_74 : decode cX8_know 74 = .ok (.iconst 1, 1) := by decide +kernel
theorem dX8_know_75 : decode cX8_know 75 = .ok (.iload_n 2, 1) := by decide +kernel
theorem dX8_know_76 : decode cX8_know 76 = .ok (.ishl, 1) := by decide +kernel
theorem dX8_know_77 : decode cX8_know 77 = .ok (.iconst (-1), 1) := by decide +kernel
theorem dX8_know_78 : decode cX8_know 78 = .ok (.ixor, 1) := by decide +kernel
theorem dX8_know_79 : decode cX8_know 79 = .ok (.iand, 1) := by decide +kernel
theorem dX8_know_80 : decode cX8_know 80 = .ok (.iastore, 1) := by decide +kernel
theorem dX8_know_81 : decode cX8_know 81 = .ok (.aload_n 0, 1) := by decide +kernel
theorem dX8_know_82 : decode cX8_know 82 = .ok (.getfield 7, 3) := by decide +kernel
theorem dX8_know_85 : decode cX8_know 85 = .ok (.iload_n 1, 1) := by decide +kernel
theorem dX8_know_86 : decode cX8_know 86 = .ok (.iconst 5, 1) := by decide +kernel
theorem dX8_know_87 : decode cX8_know 87 = .ok (.iload_n 2, 1) := by decide +kernel
theorem dX8_know_88 : decode cX8_know 88 = .ok (.iadd, 1) := by decide +kernel
theorem dX8_know_89 : decode cX8_know 89 = .ok (.invokestatic 56, 3) := by decide +kernel
theorem dX8_know_92 : decode cX8_know 92 = .ok (.iconst 0, 1) := by decide +kernel
theorem dX8_know_93 : decode cX8_know 93 = .ok (.iastore, 1) := by decide +kernel
theorem dX8_know_94 : decode cX8_know 94 = .ok (.aload_n 0, 1) := by decide +kernel
theorem dX8_know_95 : decode cX8_know 95 = .ok (.getfield 7, 3) := by decide +kernel
theorem dX8_know_98 : decode cX8_know 98 = .ok (.iload_n 1, 1) := by decide +kernel
theorem dX8_know_99 : decode cX8_know 99 = .ok (.bipush 11, 2) := by decide +kernel
theorem dX8_know_101 : decode cX8_know 101 = .ok (.iload_n 2, 1) := by decide +kernel
theorem dX8_know_102 : decode cX8_know 102 = .ok (.iadd, 1) := by decide +kernel
theorem dX8_know_103 : decode cX8_know 103 = .ok (.invokestatic 56, 3) := by decide +kernel
theorem dX8_know_106 : decode cX8_know 106 = .ok (.iconst 0, 1) := by decide +kernel
theorem dX8_know_107 : decode cX8_know 107 = .ok (.iastore, 1) := by decide +kernel
theorem dX8_know_108 : decode cX8_know 108 = .ok (.goto 32, 3) := by decide +kernel
theorem dX8_know_111 : decode cX8_know 111 = .ok (.aload_n 0, 1) := by decide +kernel
theorem dX8_know_112 : decode cX8_know 112 = .ok (.getfield 7, 3) := by decide +kernel
theorem dX8_know_115 : decode cX8_know 115 = .ok (.iload_n 1, 1) := by decide +kernel
theorem dX8_know_116 : decode cX8_know 116 = .ok (.iconst 3, 1) := by decide +kernel
theorem dX8_know_117 : decode cX8_know 117 = .ok (.invokestatic 56, 3) := by decide +kernel
theorem dX8_know_120 : decode cX8_know 120 = .ok (.dup2, 1) := by decide +kernel
theorem dX8_know_121 : decode cX8_know 121 = .ok (.iaload, 1) := by decide +kernel
theorem dX8_know_122 : decode cX8_know 122 = .ok (.iconst 1, 1) := by decide +kernel
theorem dX8_know_123 : decode cX8_know 123 = .ok (.iload_n 2, 1) := by decide +kernel
theorem dX8_know_124 : decode cX8_know 124 = .ok (.ishl, 1) := by decide +kernel
theorem dX8_know_125 : decode cX8_know 125 = .ok (.ior, 1) := by decide +kernel
theorem dX8_know_126 : decode cX8_know 126 = .ok (.iastore, 1) := by decide +kernel
theorem dX8_know_127 : decode cX8_know 127 = .ok (.aload_n 0, 1) := by decide +kernel
theorem dX8_know_128 : decode cX8_know 128 = .ok (.getfield 7, 3) := by decide +kernel
theorem dX8_know_131 : decode cX8_know 131 = .ok (.iload_n 1, 1) := by decide +kernel
theorem dX8_know_132 : decode cX8_know 132 = .ok (.iconst 5, 1) := by decide +kernel
theorem dX8_know_133 : decode cX8_know 133 = .ok (.iload_n 2, 1) := by decide +kernel
theorem dX8_know_134 : decode cX8_know 134 = .ok (.iadd, 1) := by decide +kernel
theorem dX8_know_135 : decode cX8_know 135 = .ok (.invokestatic 56, 3) := by decide +kernel
theorem dX8_know_138 : decode cX8_know 138 = .ok (.iload_n 3, 1) := by decide +kernel
theorem dX8_know_139 : decode cX8_know 139 = .ok (.iastore, 1) := by decide +kernel
theorem dX8_know_140 : decode cX8_know 140 = .ok (.iload 4, 2) := by decide +kernel
theorem dX8_know_142 : decode cX8_know 142 = .ok (.ireturn, 1) := by decide +kernel
theorem dX8_rosterWrong_0 : decode cX8_rosterWrong 0 = .ok (.iload_n 1, 1) := by decide +kernel
theorem dX8_rosterWrong_1 : decode cX8_rosterWrong 1 = .ok (.invokestatic 80, 3) := by decide +kernel
theorem dX8_rosterWrong_4 : decode cX8_rosterWrong 4 = .ok (.ifCond .eq 10, 3) := by decide +kernel
theorem dX8_rosterWrong_7 : decode cX8_rosterWrong 7 = .ok (.iload_n 2, 1) := by decide +kernel
theorem dX8_rosterWrong_8 : decode cX8_rosterWrong 8 = .ok (.invokestatic 121, 3) := by decide +kernel
theorem dX8_rosterWrong_11 : decode cX8_rosterWrong 11 = .ok (.ifCond .ne 8, 3) := by decide +kernel
theorem dX8_rosterWrong_14 : decode cX8_rosterWrong 14 = .ok (.ldc 43, 2) := by decide +kernel
theorem dX8_rosterWrong_16 : decode cX8_rosterWrong 16 = .ok (.goto 20, 3) := by decide +kernel
theorem dX8_rosterWrong_19 : decode cX8_rosterWrong 19 = .ok (.aload_n 0, 1) := by decide +kernel
theorem dX8_rosterWrong_20 : decode cX8_rosterWrong 20 = .ok (.getfield 7, 3) := by decide +kernel
theorem dX8_rosterWrong_23 : decode cX8_rosterWrong 23 = .ok (.iconst 1, 1) := by decide +kernel
theorem dX8_rosterWrong_24 : decode cX8_rosterWrong 24 = .ok (.iaload, 1) := by decide +kernel
theorem dX8_rosterWrong_25 : decode cX8_rosterWrong 25 = .ok (.bipush 12, 2) := by decide +kernel
theorem dX8_rosterWrong_27 : decode cX8_rosterWrong 27 = .ok (.if_icmp .ne 8, 3) := by decide +kernel
theorem dX8_rosterWrong_30 : decode cX8_rosterWrong 30 = .ok (.ldc 87, 2) := by decide +kernel
theorem dX8_rosterWrong_32 : decode cX8_rosterWrong 32 = .ok (.goto 4, 3) := by decide +kernel
theorem dX8_rosterWrong_35 : decode cX8_rosterWrong 35 = .ok (.iconst 0, 1) := by decide +kernel
theorem dX8_rosterWrong_36 : decode cX8_rosterWrong 36 = .ok (.ireturn, 1) := by decide +kernel
theorem dX8_rostered_0 : decode cX8_rostered 0 = .ok (.aload_n 0, 1) := by decide +kernel
theorem dX8_rostered_1 : decode cX8_rostered 1 = .ok (.getfield 7, 3) := by decide +kernel
theorem dX8_rostered_4 : decode cX8_rostered 4 = .ok (.bipush 113, 2) := by decide +kernel
theorem dX8_rostered_6 : decode cX8_rostered 6 = .ok (.iconst 2, 1) := by decide +kernel
theorem dX8_rostered_7 : decode cX8_rostered 7 = .ok (.aload_n 0, 1) := by decide +kernel
theorem dX8_rostered_8 : decode cX8_rostered 8 = .ok (.getfield 7, 3) := by decide +kernel
theorem dX8_rostered_11 : decode cX8_rostered 11 = .ok (.iconst 1, 1) := by decide +kernel
theorem dX8_rostered_12 : decode cX8_rostered 12 = .ok (.iaload, 1) := by decide +kernel
theorem dX8_rostered_13 : decode cX8_rostered 13 = .ok (.imul, 1) := by decide +kernel
theorem dX8_rostered_14 : decode cX8_rostered 14 = .ok (.iadd, 1) := by decide +kernel
theorem dX8_rostered_15 : decode cX8_rostered 15 = .ok (.iload_n 1, 1) := by decide +kernel
theorem dX8_rostered_16 : decode cX8_rostered 16 = .ok (.iastore, 1) := by decide +kernel
theorem dX8_rostered_17 : decode cX8_rostered 17 = .ok (.aload_n 0, 1) := by decide +kernel
theorem dX8_rostered_18 : decode cX8_rostered 18 = .ok (.getfield 7, 3) := by decide +kernel
theorem dX8_rostered_21 : decode cX8_rostered 21 = .ok (.bipush 113, 2) := by decide +kernel
theorem dX8_rostered_23 : decode cX8_rostered 23 = .ok (.iconst 2, 1) := by decide +kernel
theorem dX8_rostered_24 : decode cX8_rostered 24 = .ok (.aload_n 0, 1) := by decide +kernel
theorem dX8_rostered_25 : decode cX8_rostered 25 = .ok (.getfield 7, 3) := by decide +kernel
theorem dX8_rostered_28 : decode cX8_rostered 28 = .ok (.iconst 1, 1) := by decide +kernel
theorem dX8_rostered_29 : decode cX8_rostered 29 = .ok (.iaload, 1) := by decide +kernel
theorem dX8_rostered_30 : decode cX8_rostered 30 = .ok (.imul, 1) := by decide +kernel
theorem dX8_rostered_31 : decode cX8_rostered 31 = .ok (.iadd, 1) := by decide +kernel
theorem dX8_rostered_32 : decode cX8_rostered 32 = .ok (.iconst 1, 1) := by decide +kernel
theorem dX8_rostered_33 : decode cX8_rostered 33 = .ok (.iadd, 1) := by decide +kernel
theorem dX8_rostered_34 : decode cX8_rostered 34 = .ok (.iload_n 2, 1) := by decide +kernel
theorem dX8_rostered_35 : decode cX8_rostered 35 = .ok (.iastore, 1) := by decide +kernel
theorem dX8_rostered_36 : decode cX8_rostered 36 = .ok (.aload_n 0, 1) := by decide +kernel
theorem dX8_rostered_37 : decode cX8_rostered 37 = .ok (.getfield 7, 3) := by decide +kernel
theorem dX8_rostered_40 : decode cX8_rostered 40 = .ok (.iconst 1, 1) := by decide +kernel
theorem dX8_rostered_41 : decode cX8_rostered 41 = .ok (.dup2, 1) := by decide +kernel
theorem dX8_rostered_42 : decode cX8_rostered 42 = .ok (.iaload, 1) := by decide +kernel
theorem dX8_rostered_43 : decode cX8_rostered 43 = .ok (.iconst 1, 1) := by decide +kernel
theorem dX8_rostered_44 : decode cX8_rostered 44 = .ok (.iadd, 1) := by decide +kernel
theorem dX8_rostered_45 : decode cX8_rostered 45 = .ok (.iastore, 1) := by decide +kernel
theorem dX8_rostered_46 : decode cX8_rostered 46 = .ok (.return_, 1) := by decide +kernel
theorem dX8_roster_0 : decode cX8_roster 0 = .ok (.aload_n 0, 1) := by decide +kernel
theorem dX8_roster_1 : decode cX8_roster 1 = .ok (.iload_n 1, 1) := by decide +kernel
theorem dX8_roster_2 : decode cX8_roster 2 = .ok (.iload_n 2, 1) := by decide +kernel
theorem dX8_roster_3 : decode cX8_roster 3 = .ok (.invokevirtual 124, 3) := by decide +kernel
theorem dX8_roster_6 : decode cX8_roster 6 = .ok (.istore_n 3, 1) := by decide +kernel
theorem dX8_roster_7 : decode cX8_roster 7 = .ok (.iload_n 3, 1) := by decide +kernel
theorem dX8_roster_8 : decode cX8_roster 8 = .ok (.ifCond .eq 9, 3) := by decide +kernel
theorem dX8_roster_11 : decode cX8_roster 11 = .ok (.aload_n 0, 1) := by decide +kernel
theorem dX8_roster_12 : decode cX8_roster 12 = .ok (.iload_n 3, 1) := by decide +kernel
theorem dX8_roster_13 : decode cX8_roster 13 = .ok (.invokevirtual 84, 3) := by decide +kernel
theorem dX8_roster_16 : decode cX8_roster 16 = .ok (.ireturn, 1) := by decide +kernel
theorem dX8_roster_17 : decode cX8_roster 17 = .ok (.aload_n 0, 1) := by decide +kernel
theorem dX8_roster_18 : decode cX8_roster 18 = .ok (.iload_n 1, 1) := by decide +kernel
theorem dX8_roster_19 : decode cX8_roster 19 = .ok (.iload_n 2, 1) := by decide +kernel
theorem dX8_roster_20 : decode cX8_roster 20 = .ok (.invokevirtual 127, 3) := by decide +kernel
theorem dX8_roster_23 : decode cX8_roster 23 = .ok (.aload_n 0, 1) := by decide +kernel
theorem dX8_roster_24 : decode cX8_roster 24 = .ok (.getfield 7, 3) := by decide +kernel
theorem dX8_roster_27 : decode cX8_roster 27 = .ok (.iconst 1, 1) := by decide +kernel
theorem dX8_roster_28 : decode cX8_roster 28 = .ok (.iaload, 1) := by decide +kernel
theorem dX8_roster_29 : decode cX8_roster 29 = .ok (.ireturn, 1) := by decide +kernel
theorem dX8_book_0 : decode cX8_book 0 = .ok (.iload_n 1, 1) := by decide +kernel
theorem dX8_book_1 : decode cX8_book 1 = .ok (.invokestatic 121, 3) := by decide +kernel
theorem dX8_book_4 : decode cX8_book 4 = .ok (.ifCond .ne 10, 3) := by decide +kernel
theorem dX8_book_7 : decode cX8_book 7 = .ok (.aload_n 0, 1) := by decide +kernel
theorem dX8_book_8 : decode cX8_book 8 = .ok (.ldc 43, 2) := by decide +kernel
theorem dX8_book_10 : decode cX8_book 10 = .ok (.invokevirtual 84, 3) := by decide +kernel
theorem dX8_book_13 : decode cX8_book 13 = .ok (.ireturn, 1) := by decide +kernel
theorem dX8_book_14 : decode cX8_book 14 = .ok (.aload_n 0, 1) := by decide +kernel
theorem dX8_book_15 : decode cX8_book 15 = .ok (.getfield 7, 3) := by decide +kernel
theorem dX8_book_18 : decode cX8_book 18 = .ok (.iconst 4, 1) := by decide +kernel
theorem dX8_book_19 : decode cX8_book 19 = .ok (.iaload, 1) := by decide +kernel
theorem dX8_book_20 : decode cX8_book 20 = .ok (.istore_n 2, 1) := by decide +kernel
theorem dX8_book_21 : decode cX8_book 21 = .ok (.aload_n 0, 1) := by decide +kernel
theorem dX8_book_22 : decode cX8_book 22 = .ok (.getfield 7, 3) := by decide +kernel
theorem dX8_book_25 : decode cX8_book 25 = .ok (.iconst 4, 1) := by decide +kernel
theorem dX8_book_26 : decode cX8_book 26 = .ok (.iload_n 1, 1) := by decide +kernel
theorem dX8_book_27 : decode cX8_book 27 = .ok (.iastore, 1) := by decide +kernel
theorem dX8_book_28 : decode cX8_book 28 = .ok (.iload_n 2, 1) := by decide +kernel
theorem dX8_book_29 : decode cX8_book 29 = .ok (.ireturn, 1) := by decide +kernel
theorem dX8_where_0 : decode cX8_where 0 = .ok (.sipush 137, 3) := by decide +kernel
theorem dX8_where_3 : decode cX8_where 3 = .ok (.iconst 4, 1) := by decide +kernel
theorem dX8_where_4 : decode cX8_where 4 = .ok (.iload_n 0, 1) := by decide +kernel
theorem dX8_where_5 : decode cX8_where 5 = .ok (.imul, 1) := by decide +kernel
theorem dX8_where_6 : decode cX8_where 6 = .ok (.iadd, 1) := by decide +kernel
theorem dX8_where_7 : decode cX8_where 7 = .ok (.iload_n 1, 1) := by decide +kernel
theorem dX8_where_8 : decode cX8_where 8 = .ok (.iadd, 1) := by decide +kernel
theorem dX8_where_9 : decode cX8_where 9 = .ok (.ireturn, 1) := by decide +kernel
theorem dX8_ofTask_0 : decode cX8_ofTask 0 = .ok (.aload_n 0, 1) := by decide +kernel
theorem dX8_ofTask_1 : decode cX8_ofTask 1 = .ok (.getfield 7, 3) := by decide +kernel
theorem dX8_ofTask_4 : decode cX8_ofTask 4 = .ok (.iload_n 1, 1) := by decide +kernel
theorem dX8_ofTask_5 : decode cX8_ofTask 5 = .ok (.iload_n 2, 1) := by decide +kernel
theorem dX8_ofTask_6 : decode cX8_ofTask 6 = .ok (.invokestatic 131, 3) := by decide +kernel
theorem dX8_ofTask_9 : decode cX8_ofTask 9 = .ok (.iaload, 1) := by decide +kernel
theorem dX8_ofTask_10 : decode cX8_ofTask 10 = .ok (.ireturn, 1) := by decide +kernel
theorem dX8_knowers_0 : decode cX8_knowers 0 = .ok (.iconst 0, 1) := by decide +kernel
theorem dX8_knowers_1 : decode cX8_knowers 1 = .ok (.istore_n 2, 1) := by decide +kernel
theorem dX8_knowers_2 : decode cX8_knowers 2 = .ok (.iconst 0, 1) := by decide +kernel
theorem dX8_knowers_3 : decode cX8_knowers 3 = .ok (.istore_n 3, 1) := by decide +kernel
theorem dX8_knowers_4 : decode cX8_knowers 4 = .ok (.iload_n 3, 1) := by decide +kernel
theorem dX8_knowers_5 : decode cX8_knowers 5 = .ok (.aload_n 0, 1) := by decide +kernel
theorem dX8_knowers_6 : decode cX8_knowers 6 = .ok (.getfield 7, 3) := by decide +kernel
theorem dX8_knowers_9 : decode cX8_knowers 9 = .ok (.iconst 0, 1) := by decide +kernel
theorem dX8_knowers_10 : decode cX8_knowers 10 = .ok (.iaload, 1) := by decide +kernel
theorem dX8_knowers_11 : decode cX8_knowers 11 = .ok (.if_icmp .ge 26, 3) := by decide +kernel
theorem dX8_knowers_14 : decode cX8_knowers 14 = .ok (.iload_n 2, 1) := by decide +kernel
theorem dX8_knowers_15 : decode cX8_knowers 15 = .ok (.aload_n 0, 1) := by decide +kernel
theorem dX8_knowers_16 : decode cX8_knowers 16 = .ok (.iload_n 3, 1) := by decide +kernel
theorem dX8_knowers_17 : decode cX8_knowers 17 = .ok (.iload_n 1, 1) := by decide +kernel
theorem dX8_knowers_18 : decode cX8_knowers 18 = .ok (.invokevirtual 118, 3) := by decide +kernel
theorem dX8_knowers_21 : decode cX8_knowers 21 = .ok (.ifCond .eq 7, 3) := by decide +kernel
theorem dX8_knowers_24 : decode cX8_knowers 24 = .ok (.iconst 1, 1) := by decide +kernel
theorem dX8_knowers_25 : decode cX8_knowers 25 = .ok (.goto 4, 3) := by decide +kernel
theorem dX8_knowers_28 : decode cX8_knowers 28 = .ok (.iconst 0, 1) := by decide +kernel
theorem dX8_knowers_29 : decode cX8_knowers 29 = .ok (.iadd, 1) := by decide +kernel
theorem dX8_knowers_30 : decode cX8_knowers 30 = .ok (.istore_n 2, 1) := by decide +kernel
theorem dX8_knowers_31 : decode cX8_knowers 31 = .ok (.iinc 3 1, 3) := by decide +kernel
theorem dX8_knowers_34 : decode cX8_knowers 34 = .ok (.goto (-30), 3) := by decide +kernel
theorem dX8_knowers_37 : decode cX8_knowers 37 = .ok (.iload_n 2, 1) := by decide +kernel
theorem dX8_knowers_38 : decode cX8_knowers 38 = .ok (.ireturn, 1) := by decide +kernel
theorem dX8_task_0 : decode cX8_task 0 = .ok (.iload_n 1, 1) := by decide +kernel
theorem dX8_task_1 : decode cX8_task 1 = .ok (.i2l, 1) := by decide +kernel
theorem dX8_task_2 : decode cX8_task 2 = .ok (.lconst 0, 1) := by decide +kernel
theorem dX8_task_3 : decode cX8_task 3 = .ok (.ldc2_w 134, 3) := by decide +kernel
theorem dX8_task_6 : decode cX8_task 6 = .ok (.invokestatic 44, 3) := by decide +kernel
theorem dX8_task_9 : decode cX8_task 9 = .ok (.ifCond .eq 22, 3) := by decide +kernel
theorem dX8_task_12 : decode cX8_task 12 = .ok (.iload_n 2, 1) := by decide +kernel
theorem dX8_task_13 : decode cX8_task 13 = .ok (.invokestatic 113, 3) := by decide +kernel
theorem dX8_task_16 : decode cX8_task 16 = .ok (.ifCond .eq 15, 3) := by decide +kernel
theorem dX8_task_19 : decode cX8_task 19 = .ok (.iload_n 3, 1) := by decide +kernel
theorem dX8_task_20 : decode cX8_task 20 = .ok (.i2l, 1) := by decide +kernel
theorem dX8_task_21 : decode cX8_task 21 = .ok (.lconst 0, 1) := by decide +kernel
theorem dX8_task_22 : decode cX8_task 22 = .ok (.ldc2_w 106, 3) := by decide +kernel
theorem dX8_task_25 : decode cX8_task 25 = .ok (.invokestatic 44, 3) := by decide +kernel
theorem dX8_task_28 : decode cX8_task 28 = .ok (.ifCond .ne 10, 3) := by decide +kernel
theorem dX8_task_31 : decode cX8_task 31 = .ok (.aload_n 0, 1) := by decide +kernel
theorem dX8_task_32 : decode cX8_task 32 = .ok (.ldc 43, 2) := by decide +kernel
theorem dX8_task_34 : decode cX8_task 34 = .ok (.invokevirtual 84, 3) := by decide +kernel
theorem dX8_task_37 : decode cX8_task 37 = .ok (.ireturn, 1) := by decide +kernel
theorem dX8_task_38 : decode cX8_task 38 = .ok (.bipush 10, 2) := by decide +kernel
theorem dX8_task_40 : decode cX8_task 40 = .ok (.aload_n 0, 1) := by decide +kernel
theorem dX8_task_41 : decode cX8_task 41 = .ok (.iload_n 1, 1) := by decide +kernel
theorem dX8_task_42 : decode cX8_task 42 = .ok (.iconst 0, 1) := by decide +kernel
theorem dX8_task_43 : decode cX8_task 43 = .ok (.invokevirtual 136, 3) := by decide +kernel
theorem dX8_task_46 : decode cX8_task 46 = .ok (.imul, 1) := by decide +kernel
theorem dX8_task_47 : decode cX8_task 47 = .ok (.aload_n 0, 1) := by decide +kernel
theorem dX8_task_48 : decode cX8_task 48 = .ok (.iload_n 1, 1) := by decide +kernel
theorem dX8_task_49 : decode cX8_task 49 = .ok (.iconst 1, 1) := by decide +kernel
theorem dX8_task_50 : decode cX8_task 50 = .ok (.invokevirtual 136, 3) := by decide +kernel
theorem dX8_task_53 : decode cX8_task 53 = .ok (.iadd, 1) := by decide +kernel
theorem dX8_task_54 : decode cX8_task 54 = .ok (.istore 4, 2) := by decide +kernel
theorem dX8_task_56 : decode cX8_task 56 = .ok (.aload_n 0, 1) := by decide +kernel
theorem dX8_task_57 : decode cX8_task 57 = .ok (.getfield 7, 3) := by decide +kernel
theorem dX8_task_60 : decode cX8_task 60 = .ok (.iload_n 1, 1) := by decide +kernel
theorem dX8_task_61 : decode cX8_task 61 = .ok (.iconst 0, 1) := by decide +kernel
theorem dX8_task_62 : decode cX8_task 62 = .ok (.invokestatic 131, 3) := by decide +kernel
theorem dX8_task_65 : decode cX8_task 65 = .ok (.iload_n 2, 1) := by decide +kernel
theorem dX8_task_66 : decode cX8_task 66 = .ok (.iastore, 1) := by decide +kernel
theorem dX8_task_67 : decode cX8_task 67 = .ok (.aload_n 0, 1) := by decide +kernel
theorem dX8_task_68 : decode cX8_task 68 = .ok (.getfield 7, 3) := by decide +kernel
theorem dX8_task_71 : decode cX8_task 71 = .ok (.iload_n 1, 1) := by decide +kernel
theorem dX8_task_72 : decode cX8_task 72 = .ok (.iconst 1, 1) := by decide +kernel
theorem dX8_task_73 : decode cX8_task 73 = .ok (.invokestatic 131, 3) := by decide +kernel
theorem dX8_task_76 : decode cX8_task 76 = .ok (.iload_n 3, 1) := by decide +kernel
theorem dX8_task_77 : decode cX8_task 77 = .ok (.iastore, 1) := by decide +kernel
theorem dX8_task_78 : decode cX8_task 78 = .ok (.iload 4, 2) := by decide +kernel
theorem dX8_task_80 : decode cX8_task 80 = .ok (.ireturn, 1) := by decide +kernel
theorem dX8_toldTask_0 : decode cX8_toldTask 0 = .ok (.iload_n 2, 1) := by decide +kernel
theorem dX8_toldTask_1 : decode cX8_toldTask 1 = .ok (.iconst 2, 1) := by decide +kernel
theorem dX8_toldTask_2 : decode cX8_toldTask 2 = .ok (.if_icmp .ge 12, 3) := by decide +kernel
theorem dX8_toldTask_5 : decode cX8_toldTask 5 = .ok (.aload_n 0, 1) := by decide +kernel
theorem dX8_toldTask_6 : decode cX8_toldTask 6 = .ok (.iload_n 1, 1) := by decide +kernel
theorem dX8_toldTask_7 : decode cX8_toldTask 7 = .ok (.iload_n 2, 1) := by decide +kernel
theorem dX8_toldTask_8 : decode cX8_toldTask 8 = .ok (.invokevirtual 136, 3) := by decide +kernel
theorem dX8_toldTask_11 : decode cX8_toldTask 11 = .ok (.goto 29, 3) := by decide +kernel
theorem dX8_toldTask_14 : decode cX8_toldTask 14 = .ok (.iload_n 2, 1) := by decide +kernel
theorem dX8_toldTask_15 : decode cX8_toldTask 15 = .ok (.iconst 2, 1) := by decide +kernel
theorem dX8_toldTask_16 : decode cX8_toldTask 16 = .ok (.if_icmp .ne 16, 3) := by decide +kernel
theorem dX8_toldTask_19 : decode cX8_toldTask 19 = .ok (.aload_n 0, 1) := by decide +kernel
theorem dX8_toldTask_20 : decode cX8_toldTask 20 = .ok (.aload_n 0, 1) := by decide +kernel
theorem dX8_toldTask_21 : decode cX8_toldTask 21 = .ok (.iload_n 1, 1) := by decide +kernel
theorem dX8_toldTask_22 : decode cX8_toldTask 22 = .ok (.iconst 0, 1) := by decide +kernel
theorem dX8_toldTask_23 : decode cX8_toldTask 23 = .ok (.invokevirtual 136, 3) := by decide +kernel
theorem dX8_toldTask_26 : decode cX8_toldTask 26 = .ok (.invokevirtual 139, 3) := by decide +kernel
theorem dX8_toldTask_29 : decode cX8_toldTask 29 = .ok (.goto 11, 3) := by decide +kernel
theorem dX8_toldTask_32 : decode cX8_toldTask 32 = .ok (.aload_n 0, 1) := by decide +kernel
theorem dX8_toldTask_33 : decode cX8_toldTask 33 = .ok (.iload_n 1, 1) := by decide +kernel
theorem dX8_toldTask_34 : decode cX8_toldTask 34 = .ok (.iload_n 2, 1) := by decide +kernel
theorem dX8_toldTask_35 : decode cX8_toldTask 35 = .ok (.iconst 1, 1) := by decide +kernel
theorem dX8_toldTask_36 : decode cX8_toldTask 36 = .ok (.isub, 1) := by decide +kernel
theorem dX8_toldTask_37 : decode cX8_toldTask 37 = .ok (.invokevirtual 136, 3) := by decide +kernel
theorem dX8_toldTask_40 : decode cX8_toldTask 40 = .ok (.ireturn, 1) := by decide +kernel
theorem dX8_taskIs_0 : decode cX8_taskIs 0 = .ok (.iload_n 1, 1) := by decide +kernel
theorem dX8_taskIs_1 : decode cX8_taskIs 1 = .ok (.i2l, 1) := by decide +kernel
theorem dX8_taskIs_2 : decode cX8_taskIs 2 = .ok (.lconst 0, 1) := by decide +kernel
theorem dX8_taskIs_3 : decode cX8_taskIs 3 = .ok (.ldc2_w 134, 3) := by decide +kernel
theorem dX8_taskIs_6 : decode cX8_taskIs 6 = .ok (.invokestatic 44, 3) := by decide +kernel
theorem dX8_taskIs_9 : decode cX8_taskIs 9 = .ok (.ifCond .eq 24, 3) := by decide +kernel
theorem dX8_taskIs_12 : decode cX8_taskIs 12 = .ok (.iload_n 2, 1) := by decide +kernel
theorem dX8_taskIs_13 : decode cX8_taskIs 13 = .ok (.i2l, 1) := by decide +kernel
theorem dX8_taskIs_14 : decode cX8_taskIs 14 = .ok (.lconst 0, 1) := by decide +kernel
theorem dX8_taskIs_15 : decode cX8_taskIs 15 = .ok (.ldc2_w 142, 3) := by decide +kernel
theorem dX8_taskIs_18 : decode cX8_taskIs 18 = .ok (.invokestatic 44, 3) := by decide +kernel
theorem dX8_taskIs_21 : decode cX8_taskIs 21 = .ok (.ifCond .eq 12, 3) := by decide +kernel
theorem dX8_taskIs_24 : decode cX8_taskIs 24 = .ok (.aload_n 0, 1) := by decide +kernel
theorem dX8_taskIs_25 : decode cX8_taskIs 25 = .ok (.iload_n 1, 1) := by decide +kernel
theorem dX8_taskIs_26 : decode cX8_taskIs 26 = .ok (.iload_n 2, 1) := by decide +kernel
theorem dX8_taskIs_27 : decode cX8_taskIs 27 = .ok (.invokevirtual 144, 3) := by decide +kernel
theorem dX8_taskIs_30 : decode cX8_taskIs 30 = .ok (.goto 9, 3) := by decide +kernel
theorem dX8_taskIs_33 : decode cX8_taskIs 33 = .ok (.aload_n 0, 1) := by decide +kernel
theorem dX8_taskIs_34 : decode cX8_taskIs 34 = .ok (.ldc 43, 2) := by decide +kernel
theorem dX8_taskIs_36 : decode cX8_taskIs 36 = .ok (.invokevirtual 84, 3) := by decide +kernel
theorem dX8_taskIs_39 : decode cX8_taskIs 39 = .ok (.ireturn, 1) := by decide +kernel
theorem dX8_feed_0 : decode cX8_feed 0 = .ok (.iload_n 3, 1) := by decide +kernel
theorem dX8_feed_1 : decode cX8_feed 1 = .ok (.i2l, 1) := by decide +kernel
theorem dX8_feed_2 : decode cX8_feed 2 = .ok (.lconst 1, 1) := by decide +kernel
theorem dX8_feed_3 : decode cX8_feed 3 = .ok (.ldc2_w 147, 3) := by decide +kernel
theorem dX8_feed_6 : decode cX8_feed 6 = .ok (.invokestatic 44, 3) := by decide +kernel
theorem dX8_feed_9 : decode cX8_feed 9 = .ok (.ifCond .ne 10, 3) := by decide +kernel
theorem dX8_feed_12 : decode cX8_feed 12 = .ok (.aload_n 0, 1) := by decide +kernel
theorem dX8_feed_13 : decode cX8_feed 13 = .ok (.ldc 43, 2) := by decide +kernel
theorem dX8_feed_15 : decode cX8_feed 15 = .ok (.invokevirtual 84, 3) := by decide +kernel
theorem dX8_feed_18 : decode cX8_feed 18 = .ok (.ireturn, 1) := by decide +kernel
theorem dX8_feed_19 : decode cX8_feed 19 = .ok (.aload_n 0, 1) := by decide +kernel
theorem dX8_feed_20 : decode cX8_feed 20 = .ok (.getfield 7, 3) := by decide +kernel
theorem dX8_feed_23 : decode cX8_feed 23 = .ok (.bipush 7, 2) := by decide +kernel
theorem dX8_feed_25 : decode cX8_feed 25 = .ok (.iaload, 1) := by decide +kernel
theorem dX8_feed_26 : decode cX8_feed 26 = .ok (.iload_n 3, 1) := by decide +kernel
theorem dX8_feed_27 : decode cX8_feed 27 = .ok (.iadd, 1) := by decide +kernel
theorem dX8_feed_28 : decode cX8_feed 28 = .ok (.bipush 60, 2) := by decide +kernel
theorem dX8_feed_30 : decode cX8_feed 30 = .ok (.if_icmp .le 10, 3) := by decide +kernel
theorem dX8_feed_33 : decode cX8_feed 33 = .ok (.aload_n 0, 1) := by decide +kernel
theorem dX8_feed_34 : decode cX8_feed 34 = .ok (.ldc 87, 2) := by decide +kernel
theorem dX8_feed_36 : decode cX8_feed 36 = .ok (.invokevirtual 84, 3) := by decide +kernel
theorem dX8_feed_39 : decode cX8_feed 39 = .ok (.ireturn, 1) := by decide +kernel
theorem dX8_feed_40 : decode cX8_feed 40 = .ok (.iconst 0, 1) := by decide +kernel
theorem dX8_feed_41 : decode cX8_feed 41 = .ok (.istore 4, 2) := by decide +kernel
theorem dX8_feed_43 : decode cX8_feed 43 = .ok (.iload 4, 2) := by decide +kernel
theorem dX8_feed_45 : decode cX8_feed 45 = .ok (.iload_n 3, 1) := by decide +kernel
theorem dX8_feed_46 : decode cX8_feed 46 = .ok (.if_icmp .ge 48, 3) := by decide +kernel
theorem dX8_feed_49 : decode cX8_feed 49 = .ok (.aload_n 0, 1) := by decide +kernel
theorem dX8_feed_50 : decode cX8_feed 50 = .ok (.getfield 7, 3) := by decide +kernel
theorem dX8_feed_53 : decode cX8_feed 53 = .ok (.sipush 153, 3) := by decide +kernel
theorem dX8_feed_56 : decode cX8_feed 56 = .ok (.aload_n 0, 1) := by decide +kernel
theorem dX8_feed_57 : decode cX8_feed 57 = .ok (.getfield 7, 3) := by decide +kernel
theorem dX8_feed_60 : decode cX8_feed 60 = .ok (.bipush 7, 2) := by decide +kernel
theorem dX8_feed_62 : decode cX8_feed 62 = .ok (.iaload, 1) := by decide +kernel
theorem dX8_feed_63 : decode cX8_feed 63 = .ok (.iadd, 1) := by decide +kernel
theorem dX8_feed_64 : decode cX8_feed 64 = .ok (.lload_n 1, 1) := by decide +kernel
theorem dX8_feed_65 : decode cX8_feed 65 = .ok (.bipush 8, 2) := by decide +kernel
theorem dX8_feed_67 : decode cX8_feed 67 = .ok (.iload 4, 2) := by decide +kernel
theorem dX8_feed_69 : decode cX8_feed 69 = .ok (.imul, 1) := by decide +kernel
theorem dX8_feed_70 : decode cX8_feed 70 = .ok (.lshr, 1) := by decide +kernel
theorem dX8_feed_71 : decode cX8_feed 71 = .ok (.ldc2_w 149, 3) := by decide +kernel
theorem dX8_feed_74 : decode cX8_feed 74 = .ok (.land, 1) := by decide +kernel
theorem dX8_feed_75 : decode cX8_feed 75 = .ok (.l2i, 1) := by decide +kernel
theorem dX8_feed_76 : decode cX8_feed 76 = .ok (.iastore, 1) := by decide +kernel
theorem dX8_feed_77 : decode cX8_feed 77 = .ok (.aload_n 0, 1) := by decide +kernel
theorem dX8_feed_78 : decode cX8_feed 78 = .ok (.getfield 7, 3) := by decide +kernel
theorem dX8_feed_81 : decode cX8_feed 81 = .ok (.bipush 7, 2) := by decide +kernel
theorem dX8_feed_83 : decode cX8_feed 83 = .ok (.dup2, 1) := by decide +kernel
theorem dX8_feed_84 : decode cX8_feed 84 = .ok (.iaload, 1) := by decide +kernel
theorem dX8_feed_85 : decode cX8_feed 85 = .ok (.iconst 1, 1) := by decide +kernel
theorem dX8_feed_86 : decode cX8_feed 86 = .ok (.iadd, 1) := by decide +kernel
theorem dX8_feed_87 : decode cX8_feed 87 = .ok (.iastore, 1) := by decide +kernel
theorem dX8_feed_88 : decode cX8_feed 88 = .ok (.iinc 4 1, 3) := by decide +kernel
theorem dX8_feed_91 : decode cX8_feed 91 = .ok (.goto (-48), 3) := by decide +kernel
theorem dX8_feed_94 : decode cX8_feed 94 = .ok (.aload_n 0, 1) := by decide +kernel
theorem dX8_feed_95 : decode cX8_feed 95 = .ok (.getfield 7, 3) := by decide +kernel
theorem dX8_feed_98 : decode cX8_feed 98 = .ok (.bipush 7, 2) := by decide +kernel
theorem dX8_feed_100 : decode cX8_feed 100 = .ok (.iaload, 1) := by decide +kernel
theorem dX8_feed_101 : decode cX8_feed 101 = .ok (.ireturn, 1) := by decide +kernel
theorem dX8_byteHere_0 : decode cX8_byteHere 0 = .ok (.aload_n 0, 1) := by decide +kernel
theorem dX8_byteHere_1 : decode cX8_byteHere 1 = .ok (.getfield 151, 3) := by decide +kernel
theorem dX8_byteHere_4 : decode cX8_byteHere 4 = .ok (.aload_n 0, 1) := by decide +kernel
theorem dX8_byteHere_5 : decode cX8_byteHere 5 = .ok (.getfield 7, 3) := by decide +kernel
theorem dX8_byteHere_8 : decode cX8_byteHere 8 = .ok (.bipush 7, 2) := by decide +kernel
theorem dX8_byteHere_10 : decode cX8_byteHere 10 = .ok (.iaload, 1) := by decide +kernel
theorem dX8_byteHere_11 : decode cX8_byteHere 11 = .ok (.if_icmp .ge 19, 3) := by decide +kernel
theorem dX8_byteHere_14 : decode cX8_byteHere 14 = .ok (.aload_n 0, 1) := by decide +kernel
theorem dX8_byteHere_15 : decode cX8_byteHere 15 = .ok (.getfield 7, 3) := by decide +kernel
theorem dX8_byteHere_18 : decode cX8_byteHere 18 = .ok (.sipush 153, 3) := by decide +kernel
theorem dX8_byteHere_21 : decode cX8_byteHere 21 = .ok (.aload_n 0, 1) := by decide +kernel
theorem dX8_byteHere_22 : decode cX8_byteHere 22 = .ok (.getfield 151, 3) := by decide +kernel
theorem dX8_byteHere_25 : decode cX8_byteHere 25 = .ok (.iadd, 1) := by decide +kernel
theorem dX8_byteHere_26 : decode cX8_byteHere 26 = .ok (.iaload, 1) := by decide +kernel
theorem dX8_byteHere_27 : decode cX8_byteHere 27 = .ok (.goto 4, 3) := by decide +kernel
theorem dX8_byteHere_30 : decode cX8_byteHere 30 = .ok (.iconst (-1), 1) := by decide +kernel
theorem dX8_byteHere_31 : decode cX8_byteHere 31 = .ok (.ireturn, 1) := by decide +kernel
theorem dX8_isHere_0 : decode cX8_isHere 0 = .ok (.aload_n 0, 1) := by decide +kernel
theorem dX8_isHere_1 : decode cX8_isHere 1 = .ok (.getfield 155, 3) := by decide +kernel
theorem dX8_isHere_4 : decode cX8_isHere 4 = .ok (.ifCond .ne 15, 3) := by decide +kernel
theorem dX8_isHere_7 : decode cX8_isHere 7 = .ok (.aload_n 0, 1) := by decide +kernel
theorem dX8_isHere_8 : decode cX8_isHere 8 = .ok (.invokevirtual 159, 3) := by decide +kernel
theorem dX8_isHere_11 : decode cX8_isHere 11 = .ok (.iload_n 1, 1) := by decide +kernel
theorem dX8_isHere_12 : decode cX8_isHere 12 = .ok (.if_icmp .ne 7, 3) := by decide +kernel
theorem dX8_isHere_15 : decode cX8_isHere 15 = .ok (.iconst 1, 1) := by decide +kernel
theorem dX8_isHere_16 : decode cX8_isHere 16 = .ok (.goto 4, 3) := by decide +kernel
theorem dX8_isHere_19 : decode cX8_isHere 19 = .ok (.iconst 0, 1) := by decide +kernel
theorem dX8_isHere_20 : decode cX8_isHere 20 = .ok (.ireturn, 1) := by decide +kernel
theorem dX8_isDigitHere_0 : decode cX8_isDigitHere 0 = .ok (.aload_n 0, 1) := by decide +kernel
theorem dX8_isDigitHere_1 : decode cX8_isDigitHere 1 = .ok (.getfield 155, 3) := by decide +kernel
theorem dX8_isDigitHere_4 : decode cX8_isDigitHere 4 = .ok (.ifCond .ne 24, 3) := by decide +kernel
theorem dX8_isDigitHere_7 : decode cX8_isDigitHere 7 = .ok (.aload_n 0, 1) := by decide +kernel
theorem dX8_isDigitHere_8 : decode cX8_isDigitHere 8 = .ok (.invokevirtual 159, 3) := by decide +kernel
theorem dX8_isDigitHere_11 : decode cX8_isDigitHere 11 = .ok (.i2l, 1) := by decide +kernel
theorem dX8_isDigitHere_12 : decode cX8_isDigitHere 12 = .ok (.ldc2_w 163, 3) := by decide +kernel
theorem dX8_isDigitHere_15 : decode cX8_isDigitHere 15 = .ok (.ldc2_w 165, 3) := by decide +kernel
theorem dX8_isDigitHere_18 : decode cX8_isDigitHere 18 = .ok (.invokestatic 44, 3) := by decide +kernel
theorem dX8_isDigitHere_21 : decode cX8_isDigitHere 21 = .ok (.ifCond .eq 7, 3) := by decide +kernel
theorem dX8_isDigitHere_24 : decode cX8_isDigitHere 24 = .ok (.iconst 1, 1) := by decide +kernel
theorem dX8_isDigitHere_25 : decode cX8_isDigitHere 25 = .ok (.goto 4, 3) := by decide +kernel
theorem dX8_isDigitHere_28 : decode cX8_isDigitHere 28 = .ok (.iconst 0, 1) := by decide +kernel
theorem dX8_isDigitHere_29 : decode cX8_isDigitHere 29 = .ok (.ireturn, 1) := by decide +kernel
theorem dX8_writes_0 : decode cX8_writes 0 = .ok (.aload_n 0, 1) := by decide +kernel
theorem dX8_writes_1 : decode cX8_writes 1 = .ok (.getfield 155, 3) := by decide +kernel
theorem dX8_writes_4 : decode cX8_writes 4 = .ok (.ifCond .ne 23, 3) := by decide +kernel
theorem dX8_writes_7 : decode cX8_writes 7 = .ok (.aload_n 0, 1) := by decide +kernel
theorem dX8_writes_8 : decode cX8_writes 8 = .ok (.getfield 25, 3) := by decide +kernel
theorem dX8_writes_11 : decode cX8_writes 11 = .ok (.aload_n 0, 1) := by decide +kernel
theorem dX8_writes_12 : decode cX8_writes 12 = .ok (.getfield 167, 3) := by decide +kernel
theorem dX8_writes_15 : decode cX8_writes 15 = .ok (.iload_n 1, 1) := by decide +kernel
theorem dX8_writes_16 : decode cX8_writes 16 = .ok (.iastore, 1) := by decide +kernel
theorem dX8_writes_17 : decode cX8_writes 17 = .ok (.aload_n 0, 1) := by decide +kernel
theorem dX8_writes_18 : decode cX8_writes 18 = .ok (.dup, 1) := by decide +kernel
theorem dX8_writes_19 : decode cX8_writes 19 = .ok (.getfield 167, 3) := by decide +kernel
theorem dX8_writes_22 : decode cX8_writes 22 = .ok (.iconst 1, 1) := by decide +kernel
theorem dX8_writes_23 : decode cX8_writes 23 = .ok (.iadd, 1) := by decide +kernel
theorem dX8_writes_24 : decode cX8_writes 24 = .ok (.putfield 167, 3) := by decide +kernel
theorem dX8_writes_27 : decode cX8_writes 27 = .ok (.return_, 1) := by decide +kernel
theorem dX8_nameHere_0 : decode cX8_nameHere 0 = .ok (.aload_n 0, 1) := by decide +kernel
theorem dX8_nameHere_1 : decode cX8_nameHere 1 = .ok (.invokevirtual 159, 3) := by decide +kernel
theorem dX8_nameHere_4 : decode cX8_nameHere 4 = .ok (.istore_n 1, 1) := by decide +kernel
theorem dX8_nameHere_5 : decode cX8_nameHere 5 = .ok (.aload_n 0, 1) := by decide +kernel
theorem dX8_nameHere_6 : decode cX8_nameHere 6 = .ok (.getfield 170, 3) := by decide +kernel
theorem dX8_nameHere_9 : decode cX8_nameHere 9 = .ok (.ifCond .ne 37, 3) := by decide +kernel
theorem dX8_nameHere_12 : decode cX8_nameHere 12 = .ok (.iload_n 1, 1) := by decide +kernel
theorem dX8_nameHere_13 : decode cX8_nameHere 13 = .ok (.bipush 107, 2) := by decide +kernel
theorem dX8_nameHere_15 : decode cX8_nameHere 15 = .ok (.if_icmp .ne 7, 3) := by decide +kernel
theorem dX8_nameHere_18 : decode cX8_nameHere 18 = .ok (.iconst (-1), 1) := by decide +kernel
theorem dX8_nameHere_19 : decode cX8_nameHere 19 = .ok (.goto 26, 3) := by decide +kernel
theorem dX8_nameHere_22 : decode cX8_nameHere 22 = .ok (.iload_n 1, 1) := by decide +kernel
theorem dX8_nameHere_23 : decode cX8_nameHere 23 = .ok (.bipush 104, 2) := by decide +kernel
theorem dX8_nameHere_25 : decode cX8_nameHere 25 = .ok (.if_icmp .ne 8, 3) := by decide +kernel
theorem dX8_nameHere_28 : decode cX8_nameHere 28 = .ok (.bipush (-2), 2) := by decide +kernel
theorem dX8_nameHere_30 : decode cX8_nameHere 30 = .ok (.goto 15, 3) := by decide +kernel
theorem dX8_nameHere_33 : decode cX8_nameHere 33 = .ok (.iload_n 1, 1) := by decide +kernel
theorem dX8_nameHere_34 : decode cX8_nameHere 34 = .ok (.bipush 109, 2) := by decide +kernel
theorem dX8_nameHere_36 : decode cX8_nameHere 36 = .ok (.if_icmp .ne 8, 3) := by decide +kernel
theorem dX8_nameHere_39 : decode cX8_nameHere 39 = .ok (.bipush (-3), 2) := by decide +kernel
theorem dX8_nameHere_41 : decode cX8_nameHere 41 = .ok (.goto 4, 3) := by decide +kernel
theorem dX8_nameHere_44 : decode cX8_nameHere 44 = .ok (.iconst 0, 1) := by decide +kernel
theorem dX8_nameHere_45 : decode cX8_nameHere 45 = .ok (.ireturn, 1) := by decide +kernel
theorem dX8_nameHere_46 : decode cX8_nameHere 46 = .ok (.iload_n 1, 1) := by decide +kernel
theorem dX8_nameHere_47 : decode cX8_nameHere 47 = .ok (.bipush 107, 2) := by decide +kernel
theorem dX8_nameHere_49 : decode cX8_nameHere 49 = .ok (.if_icmp .ne 7, 3) := by decide +kernel
theorem dX8_nameHere_52 : decode cX8_nameHere 52 = .ok (.iconst (-1), 1) := by decide +kernel
theorem dX8_nameHere_53 : decode cX8_nameHere 53 = .ok (.goto 26, 3) := by decide +kernel
theorem dX8_nameHere_56 : decode cX8_nameHere 56 = .ok (.iload_n 1, 1) := by decide +kernel
theorem dX8_nameHere_57 : decode cX8_nameHere 57 = .ok (.bipush 104, 2) := by decide +kernel
theorem dX8_nameHere_59 : decode cX8_nameHere 59 = .ok (.if_icmp .ne 8, 3) := by decide +kernel
theorem dX8_nameHere_62 : decode cX8_nameHere 62 = .ok (.bipush (-2), 2) := by decide +kernel
theorem dX8_nameHere_64 : decode cX8_nameHere 64 = .ok (.goto 15, 3) := by decide +kernel
theorem dX8_nameHere_67 : decode cX8_nameHere 67 = .ok (.iload_n 1, 1) := by decide +kernel
theorem dX8_nameHere_68 : decode cX8_nameHere 68 = .ok (.bipush 100, 2) := by decide +kernel
theorem dX8_nameHere_70 : decode cX8_nameHere 70 = .ok (.if_icmp .ne 8, 3) := by decide +kernel
theorem dX8_nameHere_73 : decode cX8_nameHere 73 = .ok (.bipush (-4), 2) := by decide +kernel
theorem dX8_nameHere_75 : decode cX8_nameHere 75 = .ok (.goto 4, 3) := by decide +kernel
theorem dX8_nameHere_78 : decode cX8_nameHere 78 = .ok (.iconst 0, 1) := by decide +kernel
theorem dX8_nameHere_79 : decode cX8_nameHere 79 = .ok (.ireturn, 1) := by decide +kernel
theorem dX8_readsNumber_0 : decode cX8_readsNumber 0 = .ok (.iconst 0, 1) := by decide +kernel
theorem dX8_readsNumber_1 : decode cX8_readsNumber 1 = .ok (.istore_n 1, 1) := by decide +kernel
theorem dX8_readsNumber_2 : decode cX8_readsNumber 2 = .ok (.iconst 0, 1) := by decide +kernel
theorem dX8_readsNumber_3 : decode cX8_readsNumber 3 = .ok (.istore_n 2, 1) := by decide +kernel
theorem dX8_readsNumber_4 : decode cX8_readsNumber 4 = .ok (.aload_n 0, 1) := by decide +kernel
theorem dX8_readsNumber_5 : decode cX8_readsNumber 5 = .ok (.invokevirtual 173, 3) := by decide +kernel
theorem dX8_readsNumber_8 : decode cX8_readsNumber 8 = .ok (.ifCond .eq 37, 3) := by decide +kernel
theorem dX8_readsNumber_11 : decode cX8_readsNumber 11 = .ok (.iload_n 2, 1) := by decide +kernel
theorem dX8_readsNumber_12 : decode cX8_readsNumber 12 = .ok (.iconst 4, 1) := by decide +kernel
theorem dX8_readsNumber_13 : decode cX8_readsNumber 13 = .ok (.if_icmp .ge 32, 3) := by decide +kernel
theorem dX8_readsNumber_16 : decode cX8_readsNumber 16 = .ok (.bipush 10, 2) := by decide +kernel
theorem dX8_readsNumber_18 : decode cX8_readsNumber 18 = .ok (.iload_n 1, 1) := by decide +kernel
theorem dX8_readsNumber_19 : decode cX8_readsNumber 19 = .ok (.imul, 1) := by decide +kernel
theorem dX8_readsNumber_20 : decode cX8_readsNumber 20 = .ok (.aload_n 0, 1) := by decide +kernel
theorem dX8_readsNumber_21 : decode cX8_readsNumber 21 = .ok (.invokevirtual 159, 3) := by decide +kernel
theorem dX8_readsNumber_24 : decode cX8_readsNumber 24 = .ok (.iadd, 1) := by decide +kernel
theorem dX8_readsNumber_25 : decode cX8_readsNumber 25 = .ok (.bipush 48, 2) := by decide +kernel
theorem dX8_readsNumber_27 : decode cX8_readsNumber 27 = .ok (.isub, 1) := by decide +kernel
theorem dX8_readsNumber_28 : decode cX8_readsNumber 28 = .ok (.istore_n 1, 1) := by decide +kernel
theorem dX8_readsNumber_29 : decode cX8_readsNumber 29 = .ok (.iinc 2 1, 3) := by decide +kernel
theorem dX8_readsNumber_32 : decode cX8_readsNumber 32 = .ok (.aload_n 0, 1) := by decide +kernel
theorem dX8_readsNumber_33 : decode cX8_readsNumber 33 = .ok (.dup, 1) := by decide +kernel
theorem dX8_readsNumber_34 : decode cX8_readsNumber 34 = .ok (.getfield 151, 3) := by decide +kernel
theorem dX8_readsNumber_37 : decode cX8_readsNumber 37 = .ok (.iconst 1, 1) := by decide +kernel
theorem dX8_readsNumber_38 : decode cX8_readsNumber 38 = .ok (.iadd, 1) := by decide +kernel
theorem dX8_readsNumber_39 : decode cX8_readsNumber 39 = .ok (.putfield 151, 3) := by decide +kernel
theorem dX8_readsNumber_42 : decode cX8_readsNumber 42 = .ok (.goto (-38), 3) := by decide +kernel
theorem dX8_readsNumber_45 : decode cX8_readsNumber 45 = .ok (.aload_n 0, 1) := by decide +kernel
theorem dX8_readsNumber_46 : decode cX8_readsNumber 46 = .ok (.aload_n 0, 1) := by decide +kernel
theorem dX8_readsNumber_47 : decode cX8_readsNumber 47 = .ok (.invokevirtual 173, 3) := by decide +kernel
theorem dX8_readsNumber_50 : decode cX8_readsNumber 50 = .ok (.putfield 155, 3) := by decide +kernel
theorem dX8_readsNumber_53 : decode cX8_readsNumber 53 = .ok (.aload_n 0, 1) := by decide +kernel
theorem dX8_readsNumber_54 : decode cX8_readsNumber 54 = .ok (.iload_n 1, 1) := by decide +kernel
theorem dX8_readsNumber_55 : decode cX8_readsNumber 55 = .ok (.invokevirtual 177, 3) := by decide +kernel
theorem dX8_readsNumber_58 : decode cX8_readsNumber 58 = .ok (.return_, 1) := by decide +kernel
theorem dX8_readsOne_0 : decode cX8_readsOne 0 = .ok (.aload_n 0, 1) := by decide +kernel
theorem dX8_readsOne_1 : decode cX8_readsOne 1 = .ok (.getfield 155, 3) := by decide +kernel
theorem dX8_readsOne_4 : decode cX8_readsOne 4 = .ok (.ifCond .eq 7, 3) := by decide +kernel
theorem dX8_readsOne_7 : decode cX8_readsOne 7 = .ok (.iconst 0, 1) := by decide +kernel
theorem dX8_readsOne_8 : decode cX8_readsOne 8 = .ok (.goto 7, 3) := by decide +kernel
theorem dX8_readsOne_11 : decode cX8_readsOne 11 = .ok (.aload_n 0, 1) := by decide +kernel
theorem dX8_readsOne_12 : decode cX8_readsOne 12 = .ok (.invokevirtual 181, 3) := by decide +kernel
theorem dX8_readsOne_15 : decode cX8_readsOne 15 = .ok (.istore_n 1, 1) := by decide +kernel
theorem dX8_readsOne_16 : decode cX8_readsOne 16 = .ok (.aload_n 0, 1) := by decide +kernel
theorem dX8_readsOne_17 : decode cX8_readsOne 17 = .ok (.invokevirtual 173, 3) := by decide +kernel
theorem dX8_readsOne_20 : decode cX8_readsOne 20 = .ok (.ifCond .eq 10, 3) := by decide +kernel
theorem dX8_readsOne_23 : decode cX8_readsOne 23 = .ok (.aload_n 0, 1) := by decide +kernel
theorem dX8_readsOne_24 : decode cX8_readsOne 24 = .ok (.invokevirtual 184, 3) := by decide +kernel
theorem dX8_readsOne_27 : decode cX8_readsOne 27 = .ok (.goto 163, 3) := by decide +kernel
theorem dX8_readsOne_30 : decode cX8_readsOne 30 = .ok (.iload_n 1, 1) := by decide +kernel
theorem dX8_readsOne_31 : decode cX8_readsOne 31 = .ok (.ifCond .ge 21, 3) := by decide +kernel
theorem dX8_readsOne_34 : decode cX8_readsOne 34 = .ok (.aload_n 0, 1) := by decide +kernel
theorem dX8_readsOne_35 : decode cX8_readsOne 35 = .ok (.dup, 1) := by decide +kernel
theorem dX8_readsOne_36 : decode cX8_readsOne 36 = .ok (.getfield 151, 3) := by decide +kernel
theorem dX8_readsOne_39 : decode cX8_readsOne 39 = .ok (.iconst 1, 1) := by decide +kernel
theorem dX8_readsOne_40 : decode cX8_readsOne 40 = .ok (.iadd, 1) := by decide +kernel
theorem dX8_readsOne_41 : decode cX8_readsOne 41 = .ok (.putfield 151, 3) := by decide +kernel
theorem dX8_readsOne_44 : decode cX8_readsOne 44 = .ok (.aload_n 0, 1) := by decide +kernel
theorem dX8_readsOne_45 : decode cX8_readsOne 45 = .ok (.iload_n 1, 1) := by decide +kernel
theorem dX8_readsOne_46 : decode cX8_readsOne 46 = .ok (.invokevirtual 177, 3) := by decide +kernel
theorem dX8_readsOne_49 : decode cX8_readsOne 49 = .ok (.goto 141, 3) := by decide +kernel
theorem dX8_readsOne_52 : decode cX8_readsOne 52 = .ok (.aload_n 0, 1) := by decide +kernel
theorem dX8_readsOne_53 : decode cX8_readsOne 53 = .ok (.bipush 33, 2) := by decide +kernel
theorem dX8_readsOne_55 : decode cX8_readsOne 55 = .ok (.invokevirtual 187, 3) := by decide +kernel
theorem dX8_readsOne_58 : decode cX8_readsOne 58 = .ok (.ifCond .ne 12, 3) := by decide +kernel
theorem dX8_readsOne_61 : decode cX8_readsOne 61 = .ok (.aload_n 0, 1) := by decide +kernel
theorem dX8_readsOne_62 : decode cX8_readsOne 62 = .ok (.bipush 40, 2) := by decide +kernel
theorem dX8_readsOne_64 : decode cX8_readsOne 64 = .ok (.invokevirtual 187, 3) := by decide +kernel
theorem dX8_readsOne_67 : decode cX8_readsOne 67 = .ok (.ifCond .eq 118, 3) := by decide +kernel
theorem dX8_readsOne_70 : decode cX8_readsOne 70 = .ok (.aload_n 0, 1) := by decide +kernel
theorem dX8_readsOne_71 : decode cX8_readsOne 71 = .ok (.getfield 190, 3) := by decide +kernel
theorem dX8_readsOne_74 : decode cX8_readsOne 74 = .ok (.iconst 5, 1) := by decide +kernel
theorem dX8_readsOne_75 : decode cX8_readsOne 75 = .ok (.if_icmp .ge 110, 3) := by decide +kernel
theorem dX8_readsOne_78 : decode cX8_readsOne 78 = .ok (.aload_n 0, 1) := by decide +kernel
theorem dX8_readsOne_79 : decode cX8_readsOne 79 = .ok (.bipush 33, 2) := by decide +kernel
theorem dX8_readsOne_81 : decode cX8_readsOne 81 = .ok (.invokevirtual 187, 3) := by decide +kernel
theorem dX8_readsOne_84 : decode cX8_readsOne 84 = .ok (.istore_n 2, 1) := by decide +kernel
theorem dX8_readsOne_85 : decode cX8_readsOne 85 = .ok (.aload_n 0, 1) := by decide +kernel
theorem dX8_readsOne_86 : decode cX8_readsOne 86 = .ok (.dup, 1) := by decide +kernel
theorem dX8_readsOne_87 : decode cX8_readsOne 87 = .ok (.getfield 151, 3) := by decide +kernel
theorem dX8_readsOne_90 : decode cX8_readsOne 90 = .ok (.iconst 1, 1) := by decide +kernel
theorem dX8_readsOne_91 : decode cX8_readsOne 91 = .ok (.iadd, 1) := by decide +kernel
theorem dX8_readsOne_92 : decode cX8_readsOne 92 = .ok (.putfield 151, 3) := by decide +kernel
theorem dX8_readsOne_95 : decode cX8_readsOne 95 = .ok (.aload_n 0, 1) := by decide +kernel
theorem dX8_readsOne_96 : decode cX8_readsOne 96 = .ok (.dup, 1) := by decide +kernel
theorem dX8_readsOne_97 : decode cX8_readsOne 97 = .ok (.getfield 190, 3) := by decide +kernel
theorem dX8_readsOne_100 : decode cX8_readsOne 100 = .ok (.iconst 1, 1) := by decide +kernel
theorem dX8_readsOne_101 : decode cX8_readsOne 101 = .ok (.iadd, 1) := by decide +kernel
theorem dX8_readsOne_102 : decode cX8_readsOne 102 = .ok (.putfield 190, 3) := by decide +kernel
theorem dX8_readsOne_105 : decode cX8_readsOne 105 = .ok (.iload_n 2, 1) := by decide +kernel
theorem dX8_readsOne_106 : decode cX8_readsOne 106 = .ok (.ifCond .eq 16, 3) := by decide +kernel
theorem dX8_readsOne_109 : decode cX8_readsOne 109 = .ok (.aload_n 0, 1) := by decide +kernel
theorem dX8_readsOne_110 : decode cX8_readsOne 110 = .ok (.invokevirtual 193, 3) := by decide +kernel
theorem dX8_readsOne_113 : decode cX8_readsOne 113 = .ok (.aload_n 0, 1) := by decide +kernel
theorem dX8_readsOne_114 : decode cX8_readsOne 114 = .ok (.bipush (-21), 2) := by decide +kernel
theorem dX8_readsOne_116 : decode cX8_readsOne 116 = .ok (.invokevirtual 177, 3) := by decide +kernel
theorem dX8_readsOne_119 : decode cX8_readsOne 119 = .ok (.goto 53, 3) := by decide +kernel
theorem dX8_readsOne_122 : decode cX8_readsOne 122 = .ok (.aload_n 0, 1) := by decide +kernel
theorem dX8_readsOne_123 : decode cX8_readsOne 123 = .ok (.invokevirtual 196, 3) := by decide +kernel
theorem dX8_readsOne_126 : decode cX8_readsOne 126 = .ok (.aload_n 0, 1) := by decide +kernel
theorem dX8_readsOne_127 : decode cX8_readsOne 127 = .ok (.aload_n 0, 1) := by decide +kernel
theorem dX8_readsOne_128 : decode cX8_readsOne 128 = .ok (.getfield 155, 3) := by decide +kernel
theorem dX8_readsOne_131 : decode cX8_readsOne 131 = .ok (.ifCond .ne 12, 3) := by decide +kernel
theorem dX8_readsOne_134 : decode cX8_readsOne 134 = .ok (.aload_n 0, 1) := by decide +kernel
theorem dX8_readsOne_135 : decode cX8_readsOne 135 = .ok (.bipush 41, 2) := by decide +kernel
theorem dX8_readsOne_137 : decode cX8_readsOne 137 = .ok (.invokevirtual 187, 3) := by decide +kernel
theorem dX8_readsOne_140 : decode cX8_readsOne 140 = .ok (.ifCond .ne 7, 3) := by decide +kernel
theorem dX8_readsOne_143 : decode cX8_readsOne 143 = .ok (.iconst 1, 1) := by decide +kernel
theorem dX8_readsOne_144 : decode cX8_readsOne 144 = .ok (.goto 4, 3) := by decide +kernel
theorem dX8_readsOne_147 : decode cX8_readsOne 147 = .ok (.iconst 0, 1) := by decide +kernel
theorem dX8_readsOne_148 : decode cX8_readsOne 148 = .ok (.putfield 155, 3) := by decide +kernel
theorem dX8_readsOne_151 : decode cX8_readsOne 151 = .ok (.aload_n 0, 1) := by decide +kernel
theorem dX8_readsOne_152 : decode cX8_readsOne 152 = .ok (.dup, 1) := by decide +kernel
theorem dX8_readsOne_153 : decode cX8_readsOne 153 = .ok (.getfield 151, 3) := by decide +kernel
theorem dX8_readsOne_156 : decode cX8_readsOne 156 = .ok (.aload_n 0, 1) := by decide +kernel
theorem dX8_readsOne_157 : decode cX8_readsOne 157 = .ok (.getfield 155, 3) := by decide +kernel
theorem dX8_readsOne_160 : decode cX8_readsOne 160 = .ok (.ifCond .eq 7, 3) := by decide +kernel
theorem dX8_readsOne_163 : decode cX8_readsOne 163 = .ok (.iconst 0, 1) := by decide +kernel
theorem dX8_readsOne_164 : decode cX8_readsOne 164 = .ok (.goto 4, 3) := by decide +kernel
theorem dX8_readsOne_167 : decode cX8_readsOne 167 = .ok (.iconst 1, 1) := by decide +kernel
theorem dX8_readsOne_168 : decode cX8_readsOne 168 = .ok (.iadd, 1) := by decide +kernel
theorem dX8_readsOne_169 : decode cX8_readsOne 169 = .ok (.putfield 151, 3) := by decide +kernel
theorem dX8_readsOne_172 : decode cX8_readsOne 172 = .ok (.aload_n 0, 1) := by decide +kernel
theorem dX8_readsOne_173 : decode cX8_readsOne 173 = .ok (.dup, 1) := by decide +kernel
theorem dX8_readsOne_174 : decode cX8_readsOne 174 = .ok (.getfield 190, 3) := by decide +kernel
theorem dX8_readsOne_177 : decode cX8_readsOne 177 = .ok (.iconst 1, 1) := by decide +kernel
theorem dX8_readsOne_178 : decode cX8_readsOne 178 = .ok (.isub, 1) := by decide +kernel
theorem dX8_readsOne_179 : decode cX8_readsOne 179 = .ok (.putfield 190, 3) := by decide +kernel
theorem dX8_readsOne_182 : decode cX8_readsOne 182 = .ok (.goto 8, 3) := by decide +kernel
theorem dX8_readsOne_185 : decode cX8_readsOne 185 = .ok (.aload_n 0, 1) := by decide +kernel
theorem dX8_readsOne_186 : decode cX8_readsOne 186 = .ok (.iconst 1, 1) := by decide +kernel
theorem dX8_readsOne_187 : decode cX8_readsOne 187 = .ok (.putfield 155, 3) := by decide +kernel
theorem dX8_readsOne_190 : decode cX8_readsOne 190 = .ok (.return_, 1) := by decide +kernel
theorem dX8_readsProduct_0 : decode cX8_readsProduct 0 = .ok (.aload_n 0, 1) := by decide +kernel
theorem dX8_readsProduct_1 : decode cX8_readsProduct 1 = .ok (.invokevirtual 193, 3) := by decide +kernel
theorem dX8_readsProduct_4 : decode cX8_readsProduct 4 = .ok (.aload_n 0, 1) := by decide +kernel
theorem dX8_readsProduct_5 : decode cX8_readsProduct 5 = .ok (.bipush 42, 2) := by decide +kernel
theorem dX8_readsProduct_7 : decode cX8_readsProduct 7 = .ok (.invokevirtual 187, 3) := by decide +kernel
theorem dX8_readsProduct_10 : decode cX8_readsProduct 10 = .ok (.ifCond .ne 21, 3) := by decide +kernel
theorem dX8_readsProduct_13 : decode cX8_readsProduct 13 = .ok (.aload_n 0, 1) := by decide +kernel
theorem dX8_readsProduct_14 : decode cX8_readsProduct 14 = .ok (.bipush 47, 2) := by decide +kernel
theorem dX8_readsProduct_16 : decode cX8_readsProduct 16 = .ok (.invokevirtual 187, 3) := by decide +kernel
theorem dX8_readsProduct_19 : decode cX8_readsProduct 19 = .ok (.ifCond .ne 12, 3) := by decide +kernel
theorem dX8_readsProduct_22 : decode cX8_readsProduct 22 = .ok (.aload_n 0, 1) := by decide +kernel
theorem dX8_readsProduct_23 : decode cX8_readsProduct 23 = .ok (.bipush 37, 2) := by decide +kernel
theorem dX8_readsProduct_25 : decode cX8_readsProduct 25 = .ok (.invokevirtual 187, 3) := by decide +kernel
theorem dX8_readsProduct_28 : decode cX8_readsProduct 28 = .ok (.ifCond .eq 56, 3) := by decide +kernel
theorem dX8_readsProduct_31 : decode cX8_readsProduct 31 = .ok (.aload_n 0, 1) := by decide +kernel
theorem dX8_readsProduct_32 : decode cX8_readsProduct 32 = .ok (.bipush 42, 2) := by decide +kernel
theorem dX8_readsProduct_34 : decode cX8_readsProduct 34 = .ok (.invokevirtual 187, 3) := by decide +kernel
theorem dX8_readsProduct_37 : decode cX8_readsProduct 37 = .ok (.ifCond .eq 8, 3) := by decide +kernel
theorem dX8_readsProduct_40 : decode cX8_readsProduct 40 = .ok (.bipush (-18), 2) := by decide +kernel
theorem dX8_readsProduct_42 : decode cX8_readsProduct 42 = .ok (.goto 19, 3) := by decide +kernel
theorem dX8_readsProduct_45 : decode cX8_readsProduct 45 = .ok (.aload_n 0, 1) := by decide +kernel
theorem dX8_readsProduct_46 : decode cX8_readsProduct 46 = .ok (.bipush 47, 2) := by decide +kernel
theorem dX8_readsProduct_48 : decode cX8_readsProduct 48 = .ok (.invokevirtual 187, 3) := by decide +kernel
theorem dX8_readsProduct_51 : decode cX8_readsProduct 51 = .ok (.ifCond .eq 8, 3) := by decide +kernel
theorem dX8_readsProduct_54 : decode cX8_readsProduct 54 = .ok (.bipush (-19), 2) := by decide +kernel
theorem dX8_readsProduct_56 : decode cX8_readsProduct 56 = .ok (.goto 5, 3) := by decide +kernel
theorem dX8_readsProduct_59 : decode cX8_readsProduct 59 = .ok (.bipush (-20), 2) := by decide +kernel
theorem dX8_readsProduct_61 : decode cX8_readsProduct 61 = .ok (.istore_n 1, 1) := by decide +kernel
theorem dX8_readsProduct_62 : decode cX8_readsProduct 62 = .ok (.aload_n 0, 1) := by decide +kernel
theorem dX8_readsProduct_63 : decode cX8_readsProduct 63 = .ok (.dup, 1) := by decide +kernel
theorem dX8_readsProduct_64 : decode cX8_readsProduct 64 = .ok (.getfield 151, 3) := by decide +kernel
theorem dX8_readsProduct_67 : decode cX8_readsProduct 67 = .ok (.iconst 1, 1) := by decide +kernel
theorem dX8_readsProduct_68 : decode cX8_readsProduct 68 = .ok (.iadd, 1) := by decide +kernel
theorem dX8_readsProduct_69 : decode cX8_readsProduct 69 = .ok (.putfield 151, 3) := by decide +kernel
theorem dX8_readsProduct_72 : decode cX8_readsProduct 72 = .ok (.aload_n 0, 1) := by decide +kernel
theorem dX8_readsProduct_73 : decode cX8_readsProduct 73 = .ok (.invokevirtual 193, 3) := by decide +kernel
theorem dX8_readsProduct_76 : decode cX8_readsProduct 76 = .ok (.aload_n 0, 1) := by decide +kernel
theorem dX8_readsProduct_77 : decode cX8_readsProduct 77 = .ok (.iload_n 1, 1) := by decide +kernel
theorem dX8_readsProduct_78 : decode cX8_readsProduct 78 = .ok (.invokevirtual 177, 3) := by decide +kernel
theorem dX8_readsProduct_81 : decode cX8_readsProduct 81 = .ok (.goto (-77), 3) := by decide +kernel
theorem dX8_readsProduct_84 : decode cX8_readsProduct 84 = .ok (.return_, 1) := by decide +kernel
theorem dX8_readsSum_0 : decode cX8_readsSum 0 = .ok (.aload_n 0, 1) := by decide +kernel
theorem dX8_readsSum_1 : decode cX8_readsSum 1 = .ok (.invokevirtual 199, 3) := by decide +kernel
theorem dX8_readsSum_4 : decode cX8_readsSum 4 = .ok (.aload_n 0, 1) := by decide +kernel
theorem dX8_readsSum_5 : decode cX8_readsSum 5 = .ok (.bipush 43, 2) := by decide +kernel
theorem dX8_readsSum_7 : decode cX8_readsSum 7 = .ok (.invokevirtual 187, 3) := by decide +kernel
theorem dX8_readsSum_10 : decode cX8_readsSum 10 = .ok (.ifCond .ne 12, 3) := by decide +kernel
theorem dX8_readsSum_13 : decode cX8_readsSum 13 = .ok (.aload_n 0, 1) := by decide +kernel
theorem dX8_readsSum_14 : decode cX8_readsSum 14 = .ok (.bipush 45, 2) := by decide +kernel
theorem dX8_readsSum_16 : decode cX8_readsSum 16 = .ok (.invokevirtual 187, 3) := by decide +kernel
theorem dX8_readsSum_19 : decode cX8_readsSum 19 = .ok (.ifCond .eq 42, 3) := by decide +kernel
theorem dX8_readsSum_22 : decode cX8_readsSum 22 = .ok (.aload_n 0, 1) := by decide +kernel
theorem dX8_readsSum_23 : decode cX8_readsSum 23 = .ok (.bipush 43, 2) := by decide +kernel
theorem dX8_readsSum_25 : decode cX8_readsSum 25 = .ok (.invokevirtual 187, 3) := by decide +kernel
theorem dX8_readsSum_28 : decode cX8_readsSum 28 = .ok (.ifCond .eq 8, 3) := by decide +kernel
theorem dX8_readsSum_31 : decode cX8_readsSum 31 = .ok (.bipush (-16), 2) := by decide +kernel
theorem dX8_readsSum_33 : decode cX8_readsSum 33 = .ok (.goto 5, 3) := by decide +kernel
theorem dX8_readsSum_36 : decode cX8_readsSum 36 = .ok (.bipush (-17), 2) := by decide +kernel
theorem dX8_readsSum_38 : decode cX8_readsSum 38 = .ok (.istore_n 1, 1) := by decide +kernel
theorem dX8_readsSum_39 : decode cX8_readsSum 39 = .ok (.aload_n 0, 1) := by decide +kernel
theorem dX8_readsSum_40 : decode cX8_readsSum 40 = .ok (.dup, 1) := by decide +kernel
theorem dX8_readsSum_41 : decode cX8_readsSum 41 = .ok (.getfield 151, 3) := by decide +kernel
theorem dX8_readsSum_44 : decode cX8_readsSum 44 = .ok (.iconst 1, 1) := by decide +kernel
theorem dX8_readsSum_45 : decode cX8_readsSum 45 = .ok (.iadd, 1) := by decide +kernel
theorem dX8_readsSum_46 : decode cX8_readsSum 46 = .ok (.putfield 151, 3) := by decide +kernel
theorem dX8_readsSum_49 : decode cX8_readsSum 49 = .ok (.aload_n 0, 1) := by decide +kernel
theorem dX8_readsSum_50 : decode cX8_readsSum 50 = .ok (.invokevirtual 199, 3) := by decide +kernel
theorem dX8_readsSum_53 : decode cX8_readsSum 53 = .ok (.aload_n 0, 1) := by decide +kernel
theorem dX8_readsSum_54 : decode cX8_readsSum 54 = .ok (.iload_n 1, 1) := by decide +kernel
theorem dX8_readsSum_55 : decode cX8_readsSum 55 = .ok (.invokevirtual 177, 3) := by decide +kernel
theorem dX8_readsSum_58 : decode cX8_readsSum 58 = .ok (.goto (-54), 3) := by decide +kernel
theorem dX8_readsSum_61 : decode cX8_readsSum 61 = .ok (.return_, 1) := by decide +kernel
theorem dX8_readsComparison_0 : decode cX8_readsComparison 0 = .ok (.aload_n 0, 1) := by decide +kernel
theorem dX8_readsComparison_1 : decode cX8_readsComparison 1 = .ok (.invokevirtual 202, 3) := by decide +kernel
theorem dX8_readsComparison_4 : decode cX8_readsComparison 4 = .ok (.aload_n 0, 1) := by decide +kernel
theorem dX8_readsComparison_5 : decode cX8_readsComparison 5 = .ok (.bipush 60, 2) := by decide +kernel
theorem dX8_readsComparison_7 : decode cX8_readsComparison 7 = .ok (.invokevirtual 187, 3) := by decide +kernel
theorem dX8_readsComparison_10 : decode cX8_readsComparison 10 = .ok (.ifCond .ne 21, 3) := by decide +kernel
theorem dX8_readsComparison_13 : decode cX8_readsComparison 13 = .ok (.aload_n 0, 1) := by decide +kernel
theorem dX8_readsComparison_14 : decode cX8_readsComparison 14 = .ok (.bipush 61, 2) := by decide +kernel
theorem dX8_readsComparison_16 : decode cX8_readsComparison 16 = .ok (.invokevirtual 187, 3) := by decide +kernel
theorem dX8_readsComparison_19 : decode cX8_readsComparison 19 = .ok (.ifCond .ne 12, 3) := by decide +kernel
theorem dX8_readsComparison_22 : decode cX8_readsComparison 22 = .ok (.aload_n 0, 1) := by decide +kernel
theorem dX8_readsComparison_23 : decode cX8_readsComparison 23 = .ok (.bipush 62, 2) := by decide +kernel
theorem dX8_readsComparison_25 : decode cX8_readsComparison 25 = .ok (.invokevirtual 187, 3) := by decide +kernel
theorem dX8_readsComparison_28 : decode cX8_readsComparison 28 = .ok (.ifCond .eq 53, 3) := by decide +kernel
theorem dX8_readsComparison_31 : decode cX8_readsComparison 31 = .ok (.aload_n 0, 1) := by decide +kernel
theorem dX8_readsComparison_32 : decode cX8_readsComparison 32 = .ok (.bipush 60, 2) := by decide +kernel
theorem dX8_readsComparison_34 : decode cX8_readsComparison 34 = .ok (.invokevirtual 187, 3) := by decide +kernel
theorem dX8_readsComparison_37 : decode cX8_readsComparison 37 = .ok (.ifCond .eq 8, 3) := by decide +kernel
theorem dX8_readsComparison_40 : decode cX8_readsComparison 40 = .ok (.bipush (-13), 2) := by decide +kernel
theorem dX8_readsComparison_42 : decode cX8_readsComparison 42 = .ok (.goto 19, 3) := by decide +kernel
theorem dX8_readsComparison_45 : decode cX8_readsComparison 45 = .ok (.aload_n 0, 1) := by decide +kernel
theorem dX8_readsComparison_46 : decode cX8_readsComparison 46 = .ok (.bipush 61, 2) := by decide +kernel
theorem dX8_readsComparison_48 : decode cX8_readsComparison 48 = .ok (.invokevirtual 187, 3) := by decide +kernel
theorem dX8_readsComparison_51 : decode cX8_readsComparison 51 = .ok (.ifCond .eq 8, 3) := by decide +kernel
theorem dX8_readsComparison_54 : decode cX8_readsComparison 54 = .ok (.bipush (-14), 2) := by decide +kernel
theorem dX8_readsComparison_56 : decode cX8_readsComparison 56 = .ok (.goto 5, 3) := by decide +kernel
theorem dX8_readsComparison_59 : decode cX8_readsComparison 59 = .ok (.bipush (-15), 2) := by decide +kernel
theorem dX8_readsComparison_61 : decode cX8_readsComparison 61 = .ok (.istore_n 1, 1) := by decide +kernel
theorem dX8_readsComparison_62 : decode cX8_readsComparison 62 = .ok (.aload_n 0, 1) := by decide +kernel
theorem dX8_readsComparison_63 : decode cX8_readsComparison 63 = .ok (.dup, 1) := by decide +kernel
theorem dX8_readsComparison_64 : decode cX8_readsComparison 64 = .ok (.getfield 151, 3) := by decide +kernel
theorem dX8_readsComparison_67 : decode cX8_readsComparison 67 = .ok (.iconst 1, 1) := by decide +kernel
theorem dX8_readsComparison_68 : decode cX8_readsComparison 68 = .ok (.iadd, 1) := by decide +kernel
theorem dX8_readsComparison_69 : decode cX8_readsComparison 69 = .ok (.putfield 151, 3) := by decide +kernel
theorem dX8_readsComparison_72 : decode cX8_readsComparison 72 = .ok (.aload_n 0, 1) := by decide +kernel
theorem dX8_readsComparison_73 : decode cX8_readsComparison 73 = .ok (.invokevirtual 202, 3) := by decide +kernel
theorem dX8_readsComparison_76 : decode cX8_readsComparison 76 = .ok (.aload_n 0, 1) := by decide +kernel
theorem dX8_readsComparison_77 : decode cX8_readsComparison 77 = .ok (.iload_n 1, 1) := by decide +kernel
theorem dX8_readsComparison_78 : decode cX8_readsComparison 78 = .ok (.invokevirtual 177, 3) := by decide +kernel
theorem dX8_readsComparison_81 : decode cX8_readsComparison 81 = .ok (.return_, 1) := by decide +kernel
theorem dX8_readsAll_0 : decode cX8_readsAll 0 = .ok (.aload_n 0, 1) := by decide +kernel
theorem dX8_readsAll_1 : decode cX8_readsAll 1 = .ok (.invokevirtual 205, 3) := by decide +kernel
theorem dX8_readsAll_4 : decode cX8_readsAll 4 = .ok (.aload_n 0, 1) := by decide +kernel
theorem dX8_readsAll_5 : decode cX8_readsAll 5 = .ok (.bipush 38, 2) := by decide +kernel
theorem dX8_readsAll_7 : decode cX8_readsAll 7 = .ok (.invokevirtual 187, 3) := by decide +kernel
theorem dX8_readsAll_10 : decode cX8_readsAll 10 = .ok (.ifCond .eq 26, 3) := by decide +kernel
theorem dX8_readsAll_13 : decode cX8_readsAll 13 = .ok (.aload_n 0, 1) := by decide +kernel
theorem dX8_readsAll_14 : decode cX8_readsAll 14 = .ok (.dup, 1) := by decide +kernel
theorem dX8_readsAll_15 : decode cX8_readsAll 15 = .ok (.getfield 151, 3) := by decide +kernel
theorem dX8_readsAll_18 : decode cX8_readsAll 18 = .ok (.iconst 1, 1) := by decide +kernel
theorem dX8_readsAll_19 : decode cX8_readsAll 19 = .ok (.iadd, 1) := by decide +kernel
theorem dX8_readsAll_20 : decode cX8_readsAll 20 = .ok (.putfield 151, 3) := by decide +kernel
theorem dX8_readsAll_23 : decode cX8_readsAll 23 = .ok (.aload_n 0, 1) := by decide +kernel
theorem dX8_readsAll_24 : decode cX8_readsAll 24 = .ok (.invokevirtual 205, 3) := by decide +kernel
theorem dX8_readsAll_27 : decode cX8_readsAll 27 = .ok (.aload_n 0, 1) := by decide +kernel
theorem dX8_readsAll_28 : decode cX8_readsAll 28 = .ok (.bipush (-12), 2) := by decide +kernel
theorem dX8_readsAll_30 : decode cX8_readsAll 30 = .ok (.invokevirtual 177, 3) := by decide +kernel
theorem dX8_readsAll_33 : decode cX8_readsAll 33 = .ok (.goto (-29), 3) := by decide +kernel
theorem dX8_readsAll_36 : decode cX8_readsAll 36 = .ok (.return_, 1) := by decide +kernel
theorem dX8_readsText_0 : decode cX8_readsText 0 = .ok (.aload_n 0, 1) := by decide +kernel
theorem dX8_readsText_1 : decode cX8_readsText 1 = .ok (.invokevirtual 208, 3) := by decide +kernel
theorem dX8_readsText_4 : decode cX8_readsText 4 = .ok (.aload_n 0, 1) := by decide +kernel
theorem dX8_readsText_5 : decode cX8_readsText 5 = .ok (.bipush 124, 2) := by decide +kernel
theorem dX8_readsText_7 : decode cX8_readsText 7 = .ok (.invokevirtual 187, 3) := by decide +kernel
theorem dX8_readsText_10 : decode cX8_readsText 10 = .ok (.ifCond .eq 26, 3) := by decide +kernel
theorem dX8_readsText_13 : decode cX8_readsText 13 = .ok (.aload_n 0, 1) := by decide +kernel
theorem dX8_readsText_14 : decode cX8_readsText 14 = .ok (.dup, 1) := by decide +kernel
theorem dX8_readsText_15 : decode cX8_readsText 15 = .ok (.getfield 151, 3) := by decide +kernel
theorem dX8_readsText_18 : decode cX8_readsText 18 = .ok (.iconst 1, 1) := by decide +kernel
theorem dX8_readsText_19 : decode cX8_readsText 19 = .ok (.iadd, 1) := by decide +kernel
theorem dX8_readsText_20 : decode cX8_readsText 20 = .ok (.putfield 151, 3) := by decide +kernel
theorem dX8_readsText_23 : decode cX8_readsText 23 = .ok (.aload_n 0, 1) := by decide +kernel
theorem dX8_readsText_24 : decode cX8_readsText 24 = .ok (.invokevirtual 208, 3) := by decide +kernel
theorem dX8_readsText_27 : decode cX8_readsText 27 = .ok (.aload_n 0, 1) := by decide +kernel
theorem dX8_readsText_28 : decode cX8_readsText 28 = .ok (.bipush (-11), 2) := by decide +kernel
theorem dX8_readsText_30 : decode cX8_readsText 30 = .ok (.invokevirtual 177, 3) := by decide +kernel
theorem dX8_readsText_33 : decode cX8_readsText 33 = .ok (.goto (-29), 3) := by decide +kernel
theorem dX8_readsText_36 : decode cX8_readsText 36 = .ok (.return_, 1) := by decide +kernel
theorem dX8_text_0 : decode cX8_text 0 = .ok (.iload_n 1, 1) := by decide +kernel
theorem dX8_text_1 : decode cX8_text 1 = .ok (.i2l, 1) := by decide +kernel
theorem dX8_text_2 : decode cX8_text 2 = .ok (.lconst 0, 1) := by decide +kernel
theorem dX8_text_3 : decode cX8_text 3 = .ok (.lconst 1, 1) := by decide +kernel
theorem dX8_text_4 : decode cX8_text 4 = .ok (.invokestatic 44, 3) := by decide +kernel
theorem dX8_text_7 : decode cX8_text 7 = .ok (.ifCond .ne 10, 3) := by decide +kernel
theorem dX8_text_10 : decode cX8_text 10 = .ok (.aload_n 0, 1) := by decide +kernel
theorem dX8_text_11 : decode cX8_text 11 = .ok (.ldc 43, 2) := by decide +kernel
theorem dX8_text_13 : decode cX8_text 13 = .ok (.invokevirtual 84, 3) := by decide +kernel
theorem dX8_text_16 : decode cX8_text 16 = .ok (.ireturn, 1) := by decide +kernel
theorem dX8_text_17 : decode cX8_text 17 = .ok (.aload_n 0, 1) := by decide +kernel
theorem dX8_text_18 : decode cX8_text 18 = .ok (.iconst 0, 1) := by decide +kernel
theorem dX8_text_19 : decode cX8_text 19 = .ok (.putfield 151, 3) := by decide +kernel
theorem dX8_text_22 : decode cX8_text 22 = .ok (.aload_n 0, 1) := by decide +kernel
theorem dX8_text_23 : decode cX8_text 23 = .ok (.iconst 0, 1) := by decide +kernel
theorem dX8_text_24 : decode cX8_text 24 = .ok (.putfield 190, 3) := by decide +kernel
theorem dX8_text_27 : decode cX8_text 27 = .ok (.aload_n 0, 1) := by decide +kernel
theorem dX8_text_28 : decode cX8_text 28 = .ok (.iconst 0, 1) := by decide +kernel
theorem dX8_text_29 : decode cX8_text 29 = .ok (.putfield 167, 3) := by decide +kernel
theorem dX8_text_32 : decode cX8_text 32 = .ok (.aload_n 0, 1) := by decide +kernel
theorem dX8_text_33 : decode cX8_text 33 = .ok (.iload_n 1, 1) := by decide +kernel
theorem dX8_text_34 : decode cX8_text 34 = .ok (.putfield 170, 3) := by decide +kernel
theorem dX8_text_37 : decode cX8_text 37 = .ok (.aload_n 0, 1) := by decide +kernel
theorem dX8_text_38 : decode cX8_text 38 = .ok (.iconst 0, 1) := by decide +kernel
theorem dX8_text_39 : decode cX8_text 39 = .ok (.putfield 155, 3) := by decide +kernel
theorem dX8_text_42 : decode cX8_text 42 = .ok (.aload_n 0, 1) := by decide +kernel
theorem dX8_text_43 : decode cX8_text 43 = .ok (.invokevirtual 196, 3) := by decide +kernel
theorem dX8_text_46 : decode cX8_text 46 = .ok (.aload_n 0, 1) := by decide +kernel
theorem dX8_text_47 : decode cX8_text 47 = .ok (.getfield 155, 3) := by decide +kernel
theorem dX8_text_50 : decode cX8_text 50 = .ok (.ifCond .ne 21, 3) := by decide +kernel
theorem dX8_text_53 : decode cX8_text 53 = .ok (.aload_n 0, 1) := by decide +kernel
theorem dX8_text_54 : decode cX8_text 54 = .ok (.getfield 151, 3) := by decide +kernel
theorem dX8_text_57 : decode cX8_text 57 = .ok (.aload_n 0, 1) := by decide +kernel
theorem dX8_text_58 : decode cX8_text 58 = .ok (.getfield 7, 3) := by decide +kernel
theorem dX8_text_61 : decode cX8_text 61 = .ok (.bipush 7, 2) := by decide +kernel
theorem dX8_text_63 : decode cX8_text 63 = .ok (.iaload, 1) := by decide +kernel
theorem dX8_text_64 : decode cX8_text 64 = .ok (.if_icmp .ne 7, 3) := by decide +kernel
theorem dX8_text_67 : decode cX8_text 67 = .ok (.iconst 1, 1) := by decide +kernel
theorem dX8_text_68 : decode cX8_text 68 = .ok (.goto 4, 3) := by decide +kernel
theorem dX8_text_71 : decode cX8_text 71 = .ok (.iconst 0, 1) := by decide +kernel
theorem dX8_text_72 : decode cX8_text 72 = .ok (.istore_n 2, 1) := by decide +kernel
theorem dX8_text_73 : decode cX8_text 73 = .ok (.aload_n 0, 1) := by decide +kernel
theorem dX8_text_74 : decode cX8_text 74 = .ok (.getfield 7, 3) := by decide +kernel
theorem dX8_text_77 : decode cX8_text 77 = .ok (.bipush 7, 2) := by decide +kernel
theorem dX8_text_79 : decode cX8_text 79 = .ok (.iconst 0, 1) := by decide +kernel
theorem dX8_text_80 : decode cX8_text 80 = .ok (.iastore, 1) := by decide +kernel
theorem dX8_text_81 : decode cX8_text 81 = .ok (.iload_n 2, 1) := by decide +kernel
theorem dX8_text_82 : decode cX8_text 82 = .ok (.ifCond .ne 11, 3) := by decide +kernel
theorem dX8_text_85 : decode cX8_text 85 = .ok (.bipush (-10), 2) := by decide +kernel
theorem dX8_text_87 : decode cX8_text 87 = .ok (.aload_n 0, 1) := by decide +kernel
theorem dX8_text_88 : decode cX8_text 88 = .ok (.getfield 151, 3) := by decide +kernel
theorem dX8_text_91 : decode cX8_text 91 = .ok (.isub, 1) := by decide +kernel
theorem dX8_text_92 : decode cX8_text 92 = .ok (.ireturn, 1) := by decide +kernel
theorem dX8_text_93 : decode cX8_text 93 = .ok (.iconst 0, 1) := by decide +kernel
theorem dX8_text_94 : decode cX8_text 94 = .ok (.istore_n 3, 1) := by decide +kernel
theorem dX8_text_95 : decode cX8_text 95 = .ok (.iload_n 3, 1) := by decide +kernel
theorem dX8_text_96 : decode cX8_text 96 = .ok (.aload_n 0, 1) := by decide +kernel
theorem dX8_text_97 : decode cX8_text 97 = .ok (.getfield 167, 3) := by decide +kernel
theorem dX8_text_100 : decode cX8_text 100 = .ok (.if_icmp .ge 30, 3) := by decide +kernel
theorem dX8_text_103 : decode cX8_text 103 = .ok (.aload_n 0, 1) := by decide +kernel
theorem dX8_text_104 : decode cX8_text 104 = .ok (.getfield 7, 3) := by decide +kernel
theorem dX8_text_107 : decode cX8_text 107 = .ok (.sipush 237, 3) := by decide +kernel
theorem dX8_text_110 : decode cX8_text 110 = .ok (.bipush 60, 2) := by decide +kernel
theorem dX8_text_112 : decode cX8_text 112 = .ok (.iload_n 1, 1) := by decide +kernel
theorem dX8_text_113 : decode cX8_text 113 = .ok (.imul, 1) := by decide +kernel
theorem dX8_text_114 : decode cX8_text 114 = .ok (.iadd, 1) := by decide +kernel
theorem dX8_text_115 : decode cX8_text 115 = .ok (.iload_n 3, 1) := by decide +kernel
theorem dX8_text_116 : decode cX8_text 116 = .ok (.iadd, 1) := by decide +kernel
theorem dX8_text_117 : decode cX8_text 117 = .ok (.aload_n 0, 1) := by decide +kernel
theorem dX8_text_118 : decode cX8_text 118 = .ok (.getfield 25, 3) := by decide +kernel
theorem dX8_text_121 : decode cX8_text 121 = .ok (.iload_n 3, 1) := by decide +kernel
theorem dX8_text_122 : decode cX8_text 122 = .ok (.iaload, 1) := by decide +kernel
theorem dX8_text_123 : decode cX8_text 123 = .ok (.iastore, 1) := by decide +kernel
theorem dX8_text_124 : decode cX8_text 124 = .ok (.iinc 3 1, 3) := by decide +kernel
theorem dX8_text_127 : decode cX8_text 127 = .ok (.goto (-32), 3) := by decide +kernel
theorem dX8_text_130 : decode cX8_text 130 = .ok (.aload_n 0, 1) := by decide +kernel
theorem dX8_text_131 : decode cX8_text 131 = .ok (.getfield 7, 3) := by decide +kernel
theorem dX8_text_134 : decode cX8_text 134 = .ok (.bipush 9, 2) := by decide +kernel
theorem dX8_text_136 : decode cX8_text 136 = .ok (.iload_n 1, 1) := by decide +kernel
theorem dX8_text_137 : decode cX8_text 137 = .ok (.iadd, 1) := by decide +kernel
theorem dX8_text_138 : decode cX8_text 138 = .ok (.aload_n 0, 1) := by decide +kernel
theorem dX8_text_139 : decode cX8_text 139 = .ok (.getfield 167, 3) := by decide +kernel
theorem dX8_text_142 : decode cX8_text 142 = .ok (.iastore, 1) := by decide +kernel
theorem dX8_text_143 : decode cX8_text 143 = .ok (.iconst 1, 1) := by decide +kernel
theorem dX8_text_144 : decode cX8_text 144 = .ok (.ireturn, 1) := by decide +kernel
theorem dX8_untell_0 : decode cX8_untell 0 = .ok (.iload_n 1, 1) := by decide +kernel
theorem dX8_untell_1 : decode cX8_untell 1 = .ok (.i2l, 1) := by decide +kernel
theorem dX8_untell_2 : decode cX8_untell 2 = .ok (.lconst 0, 1) := by decide +kernel
theorem dX8_untell_3 : decode cX8_untell 3 = .ok (.lconst 1, 1) := by decide +kernel
theorem dX8_untell_4 : decode cX8_untell 4 = .ok (.invokestatic 44, 3) := by decide +kernel
theorem dX8_untell_7 : decode cX8_untell 7 = .ok (.ifCond .ne 10, 3) := by decide +kernel
theorem dX8_untell_10 : decode cX8_untell 10 = .ok (.aload_n 0, 1) := by decide +kernel
theorem dX8_untell_11 : decode cX8_untell 11 = .ok (.ldc 43, 2) := by decide +kernel
theorem dX8_untell_13 : decode cX8_untell 13 = .ok (.invokevirtual 84, 3) := by decide +kernel
theorem dX8_untell_16 : decode cX8_untell 16 = .ok (.ireturn, 1) := by decide +kernel
theorem dX8_untell_17 : decode cX8_untell 17 = .ok (.aload_n 0, 1) := by decide +kernel
theorem dX8_untell_18 : decode cX8_untell 18 = .ok (.getfield 7, 3) := by decide +kernel
theorem dX8_untell_21 : decode cX8_untell 21 = .ok (.bipush 9, 2) := by decide +kernel
theorem dX8_untell_23 : decode cX8_untell 23 = .ok (.iload_n 1, 1) := by decide +kernel
theorem dX8_untell_24 : decode cX8_untell 24 = .ok (.iadd, 1) := by decide +kernel
theorem dX8_untell_25 : decode cX8_untell 25 = .ok (.iaload, 1) := by decide +kernel
theorem dX8_untell_26 : decode cX8_untell 26 = .ok (.ifCond .le 7, 3) := by decide +kernel
theorem dX8_untell_29 : decode cX8_untell 29 = .ok (.iconst 1, 1) := by decide +kernel
theorem dX8_untell_30 : decode cX8_untell 30 = .ok (.goto 4, 3) := by decide +kernel
theorem dX8_untell_33 : decode cX8_untell 33 = .ok (.iconst 0, 1) := by decide +kernel
theorem dX8_untell_34 : decode cX8_untell 34 = .ok (.istore_n 2, 1) := by decide +kernel
theorem dX8_untell_35 : decode cX8_untell 35 = .ok (.aload_n 0, 1) := by decide +kernel
theorem dX8_untell_36 : decode cX8_untell 36 = .ok (.getfield 7, 3) := by decide +kernel
theorem dX8_untell_39 : decode cX8_untell 39 = .ok (.bipush 9, 2) := by decide +kernel
theorem dX8_untell_41 : decode cX8_untell 41 = .ok (.iload_n 1, 1) := by decide +kernel
theorem dX8_untell_42 : decode cX8_untell 42 = .ok (.iadd, 1) := by decide +kernel
theorem dX8_untell_43 : decode cX8_untell 43 = .ok (.iconst 0, 1) := by decide +kernel
theorem dX8_untell_44 : decode cX8_untell 44 = .ok (.iastore, 1) := by decide +kernel
theorem dX8_untell_45 : decode cX8_untell 45 = .ok (.iload_n 2, 1) := by decide +kernel
theorem dX8_untell_46 : decode cX8_untell 46 = .ok (.ireturn, 1) := by decide +kernel
theorem dX8_draw_0 : decode cX8_draw 0 = .ok (.aload_n 0, 1) := by decide +kernel
theorem dX8_draw_1 : decode cX8_draw 1 = .ok (.getfield 7, 3) := by decide +kernel
theorem dX8_draw_4 : decode cX8_draw 4 = .ok (.bipush 6, 2) := by decide +kernel
theorem dX8_draw_6 : decode cX8_draw 6 = .ok (.aload_n 0, 1) := by decide +kernel
theorem dX8_draw_7 : decode cX8_draw 7 = .ok (.getfield 7, 3) := by decide +kernel
theorem dX8_draw_10 : decode cX8_draw 10 = .ok (.bipush 6, 2) := by decide +kernel
theorem dX8_draw_12 : decode cX8_draw 12 = .ok (.iaload, 1) := by decide +kernel
theorem dX8_draw_13 : decode cX8_draw 13 = .ok (.ldc 211, 2) := by decide +kernel
theorem dX8_draw_15 : decode cX8_draw 15 = .ok (.imul, 1) := by decide +kernel
theorem dX8_draw_16 : decode cX8_draw 16 = .ok (.sipush 12345, 3) := by decide +kernel
theorem dX8_draw_19 : decode cX8_draw 19 = .ok (.iadd, 1) := by decide +kernel
theorem dX8_draw_20 : decode cX8_draw 20 = .ok (.iastore, 1) := by decide +kernel
theorem dX8_draw_21 : decode cX8_draw 21 = .ok (.aload_n 0, 1) := by decide +kernel
theorem dX8_draw_22 : decode cX8_draw 22 = .ok (.getfield 7, 3) := by decide +kernel
theorem dX8_draw_25 : decode cX8_draw 25 = .ok (.bipush 6, 2) := by decide +kernel
theorem dX8_draw_27 : decode cX8_draw 27 = .ok (.iaload, 1) := by decide +kernel
theorem dX8_draw_28 : decode cX8_draw 28 = .ok (.bipush 8, 2) := by decide +kernel
theorem dX8_draw_30 : decode cX8_draw 30 = .ok (.iushr, 1) := by decide +kernel
theorem dX8_draw_31 : decode cX8_draw 31 = .ok (.ireturn, 1) := by decide +kernel
theorem dX8_relieves_0 : decode cX8_relieves 0 = .ok (.aload_n 0, 1) := by decide +kernel
theorem dX8_relieves_1 : decode cX8_relieves 1 = .ok (.getfield 7, 3) := by decide +kernel
theorem dX8_relieves_4 : decode cX8_relieves 4 = .ok (.iconst 0, 1) := by decide +kernel
theorem dX8_relieves_5 : decode cX8_relieves 5 = .ok (.iaload, 1) := by decide +kernel
theorem dX8_relieves_6 : decode cX8_relieves 6 = .ok (.ifCond .le 116, 3) := by decide +kernel
theorem dX8_relieves_9 : decode cX8_relieves 9 = .ok (.aload_n 0, 1) := by decide +kernel
theorem dX8_relieves_10 : decode cX8_relieves 10 = .ok (.getfield 7, 3) := by decide +kernel
theorem dX8_relieves_13 : decode cX8_relieves 13 = .ok (.iconst 1, 1) := by decide +kernel
theorem dX8_relieves_14 : decode cX8_relieves 14 = .ok (.iaload, 1) := by decide +kernel
theorem dX8_relieves_15 : decode cX8_relieves 15 = .ok (.ifCond .le 107, 3) := by decide +kernel
theorem dX8_relieves_18 : decode cX8_relieves 18 = .ok (.aload_n 0, 1) := by decide +kernel
theorem dX8_relieves_19 : decode cX8_relieves 19 = .ok (.getfield 7, 3) := by decide +kernel
theorem dX8_relieves_22 : decode cX8_relieves 22 = .ok (.iconst 3, 1) := by decide +kernel
theorem dX8_relieves_23 : decode cX8_relieves 23 = .ok (.iaload, 1) := by decide +kernel
theorem dX8_relieves_24 : decode cX8_relieves 24 = .ok (.aload_n 0, 1) := by decide +kernel
theorem dX8_relieves_25 : decode cX8_relieves 25 = .ok (.getfield 7, 3) := by decide +kernel
theorem dX8_relieves_28 : decode cX8_relieves 28 = .ok (.iconst 0, 1) := by decide +kernel
theorem dX8_relieves_29 : decode cX8_relieves 29 = .ok (.iaload, 1) := by decide +kernel
theorem dX8_relieves_30 : decode cX8_relieves 30 = .ok (.irem, 1) := by decide +kernel
theorem dX8_relieves_31 : decode cX8_relieves 31 = .ok (.istore_n 1, 1) := by decide +kernel
theorem dX8_relieves_32 : decode cX8_relieves 32 = .ok (.aload_n 0, 1) := by decide +kernel
theorem dX8_relieves_33 : decode cX8_relieves 33 = .ok (.iload_n 1, 1) := by decide +kernel
theorem dX8_relieves_34 : decode cX8_relieves 34 = .ok (.invokevirtual 212, 3) := by decide +kernel
theorem dX8_relieves_37 : decode cX8_relieves 37 = .ok (.ifCond .ne 85, 3) := by decide +kernel
theorem dX8_relieves_40 : decode cX8_relieves 40 = .ok (.aload_n 0, 1) := by decide +kernel
theorem dX8_relieves_41 : decode cX8_relieves 41 = .ok (.iload_n 1, 1) := by decide +kernel
theorem dX8_relieves_42 : decode cX8_relieves 42 = .ok (.aload_n 0, 1) := by decide +kernel
theorem dX8_relieves_43 : decode cX8_relieves 43 = .ok (.getfield 7, 3) := by decide +kernel
theorem dX8_relieves_46 : decode cX8_relieves 46 = .ok (.bipush 113, 2) := by decide +kernel
theorem dX8_relieves_48 : decode cX8_relieves 48 = .ok (.iconst 2, 1) := by decide +kernel
theorem dX8_relieves_49 : decode cX8_relieves 49 = .ok (.aload_n 0, 1) := by decide +kernel
theorem dX8_relieves_50 : decode cX8_relieves 50 = .ok (.getfield 7, 3) := by decide +kernel
theorem dX8_relieves_53 : decode cX8_relieves 53 = .ok (.iconst 2, 1) := by decide +kernel
theorem dX8_relieves_54 : decode cX8_relieves 54 = .ok (.iaload, 1) := by decide +kernel
theorem dX8_relieves_55 : decode cX8_relieves 55 = .ok (.imul, 1) := by decide +kernel
theorem dX8_relieves_56 : decode cX8_relieves 56 = .ok (.iadd, 1) := by decide +kernel
theorem dX8_relieves_57 : decode cX8_relieves 57 = .ok (.iaload, 1) := by decide +kernel
theorem dX8_relieves_58 : decode cX8_relieves 58 = .ok (.aload_n 0, 1) := by decide +kernel
theorem dX8_relieves_59 : decode cX8_relieves 59 = .ok (.getfield 7, 3) := by decide +kernel
theorem dX8_relieves_62 : decode cX8_relieves 62 = .ok (.bipush 113, 2) := by decide +kernel
theorem dX8_relieves_64 : decode cX8_relieves 64 = .ok (.iconst 2, 1) := by decide +kernel
theorem dX8_relieves_65 : decode cX8_relieves 65 = .ok (.aload_n 0, 1) := by decide +kernel
theorem dX8_relieves_66 : decode cX8_relieves 66 = .ok (.getfield 7, 3) := by decide +kernel
theorem dX8_relieves_69 : decode cX8_relieves 69 = .ok (.iconst 2, 1) := by decide +kernel
theorem dX8_relieves_70 : decode cX8_relieves 70 = .ok (.iaload, 1) := by decide +kernel
theorem dX8_relieves_71 : decode cX8_relieves 71 = .ok (.imul, 1) := by decide +kernel
theorem dX8_relieves_72 : decode cX8_relieves 72 = .ok (.iadd, 1) := by decide +kernel
theorem dX8_relieves_73 : decode cX8_relieves 73 = .ok (.iconst 1, 1) := by decide +kernel
theorem dX8_relieves_74 : decode cX8_relieves 74 = .ok (.iadd, 1) := by decide +kernel
theorem dX8_relieves_75 : decode cX8_relieves 75 = .ok (.iaload, 1) := by decide +kernel
theorem dX8_relieves_76 : decode cX8_relieves 76 = .ok (.aload_n 0, 1) := by decide +kernel
theorem dX8_relieves_77 : decode cX8_relieves 77 = .ok (.getfield 7, 3) := by decide +kernel
theorem dX8_relieves_80 : decode cX8_relieves 80 = .ok (.iconst 4, 1) := by decide +kernel
theorem dX8_relieves_81 : decode cX8_relieves 81 = .ok (.iaload, 1) := by decide +kernel
theorem dX8_relieves_82 : decode cX8_relieves 82 = .ok (.aload_n 0, 1) := by decide +kernel
theorem dX8_relieves_83 : decode cX8_relieves 83 = .ok (.getfield 7, 3) := by decide +kernel
theorem dX8_relieves_86 : decode cX8_relieves 86 = .ok (.iconst 3, 1) := by decide +kernel
theorem dX8_relieves_87 : decode cX8_relieves 87 = .ok (.iaload, 1) := by decide +kernel
theorem dX8_relieves_88 : decode cX8_relieves 88 = .ok (.invokevirtual 88, 3) := by decide +kernel
theorem dX8_relieves_91 : decode cX8_relieves 91 = .ok (.aload_n 0, 1) := by decide +kernel
theorem dX8_relieves_92 : decode cX8_relieves 92 = .ok (.getfield 7, 3) := by decide +kernel
theorem dX8_relieves_95 : decode cX8_relieves 95 = .ok (.iconst 2, 1) := by decide +kernel
theorem dX8_relieves_96 : decode cX8_relieves 96 = .ok (.aload_n 0, 1) := by decide +kernel
theorem dX8_relieves_97 : decode cX8_relieves 97 = .ok (.getfield 7, 3) := by decide +kernel
theorem dX8_relieves_100 : decode cX8_relieves 100 = .ok (.iconst 2, 1) := by decide +kernel
theorem dX8_relieves_101 : decode cX8_relieves 101 = .ok (.iaload, 1) := by decide +kernel
theorem dX8_relieves_102 : decode cX8_relieves 102 = .ok (.iconst 1, 1) := by decide +kernel
theorem dX8_relieves_103 : decode cX8_relieves 103 = .ok (.iadd, 1) := by decide +kernel
theorem dX8_relieves_104 : decode cX8_relieves 104 = .ok (.aload_n 0, 1) := by decide +kernel
theorem dX8_relieves_105 : decode cX8_relieves 105 = .ok (.getfield 7, 3) := by decide +kernel
theorem dX8_relieves_108 : decode cX8_relieves 108 = .ok (.iconst 1, 1) := by decide +kernel
theorem dX8_relieves_109 : decode cX8_relieves 109 = .ok (.iaload, 1) := by decide +kernel
theorem dX8_relieves_110 : decode cX8_relieves 110 = .ok (.irem, 1) := by decide +kernel
theorem dX8_relieves_111 : decode cX8_relieves 111 = .ok (.iastore, 1) := by decide +kernel
theorem dX8_relieves_112 : decode cX8_relieves 112 = .ok (.aload_n 0, 1) := by decide +kernel
theorem dX8_relieves_113 : decode cX8_relieves 113 = .ok (.dup, 1) := by decide +kernel
theorem dX8_relieves_114 : decode cX8_relieves 114 = .ok (.getfield 215, 3) := by decide +kernel
theorem dX8_relieves_117 : decode cX8_relieves 117 = .ok (.iconst 1, 1) := by decide +kernel
theorem dX8_relieves_118 : decode cX8_relieves 118 = .ok (.iadd, 1) := by decide +kernel
theorem dX8_relieves_119 : decode cX8_relieves 119 = .ok (.putfield 215, 3) := by decide +kernel
theorem dX8_relieves_122 : decode cX8_relieves 122 = .ok (.return_, 1) := by decide +kernel
theorem dX8_lesson_0 : decode cX8_lesson 0 = .ok (.aload_n 0, 1) := by decide +kernel
theorem dX8_lesson_1 : decode cX8_lesson 1 = .ok (.iload_n 1, 1) := by decide +kernel
theorem dX8_lesson_2 : decode cX8_lesson 2 = .ok (.iconst 4, 1) := by decide +kernel
theorem dX8_lesson_3 : decode cX8_lesson 3 = .ok (.invokevirtual 60, 3) := by decide +kernel
theorem dX8_lesson_6 : decode cX8_lesson 6 = .ok (.istore_n 3, 1) := by decide +kernel
theorem dX8_lesson_7 : decode cX8_lesson 7 = .ok (.iload_n 1, 1) := by decide +kernel
theorem dX8_lesson_8 : decode cX8_lesson 8 = .ok (.iconst 1, 1) := by decide +kernel
theorem dX8_lesson_9 : decode cX8_lesson 9 = .ok (.iadd, 1) := by decide +kernel
theorem dX8_lesson_10 : decode cX8_lesson 10 = .ok (.aload_n 0, 1) := by decide +kernel
theorem dX8_lesson_11 : decode cX8_lesson 11 = .ok (.getfield 7, 3) := by decide +kernel
theorem dX8_lesson_14 : decode cX8_lesson 14 = .ok (.iconst 0, 1) := by decide +kernel
theorem dX8_lesson_15 : decode cX8_lesson 15 = .ok (.iaload, 1) := by decide +kernel
theorem dX8_lesson_16 : decode cX8_lesson 16 = .ok (.irem, 1) := by decide +kernel
theorem dX8_lesson_17 : decode cX8_lesson 17 = .ok (.istore 4, 2) := by decide +kernel
theorem dX8_lesson_19 : decode cX8_lesson 19 = .ok (.iload_n 3, 1) := by decide +kernel
theorem dX8_lesson_20 : decode cX8_lesson 20 = .ok (.ifCond .lt 165, 3) := by decide +kernel
theorem dX8_lesson_23 : decode cX8_lesson 23 = .ok (.aload_n 0, 1) := by decide +kernel
theorem dX8_lesson_24 : decode cX8_lesson 24 = .ok (.iload_n 1, 1) := by decide +kernel
theorem dX8_lesson_25 : decode cX8_lesson 25 = .ok (.iload_n 3, 1) := by decide +kernel
theorem dX8_lesson_26 : decode cX8_lesson 26 = .ok (.invokevirtual 118, 3) := by decide +kernel
theorem dX8_lesson_29 : decode cX8_lesson 29 = .ok (.ifCond .eq 156, 3) := by decide +kernel
theorem dX8_lesson_32 : decode cX8_lesson 32 = .ok (.aload_n 0, 1) := by decide +kernel
theorem dX8_lesson_33 : decode cX8_lesson 33 = .ok (.iload_n 1, 1) := by decide +kernel
theorem dX8_lesson_34 : decode cX8_lesson 34 = .ok (.invokevirtual 218, 3) := by decide +kernel
theorem dX8_lesson_37 : decode cX8_lesson 37 = .ok (.ifCond .ne 148, 3) := by decide +kernel
theorem dX8_lesson_40 : decode cX8_lesson 40 = .ok (.aload_n 0, 1) := by decide +kernel
theorem dX8_lesson_41 : decode cX8_lesson 41 = .ok (.iload 4, 2) := by decide +kernel
theorem dX8_lesson_43 : decode cX8_lesson 43 = .ok (.iload_n 3, 1) := by decide +kernel
theorem dX8_lesson_44 : decode cX8_lesson 44 = .ok (.invokevirtual 118, 3) := by decide +kernel
theorem dX8_lesson_47 : decode cX8_lesson 47 = .ok (.ifCond .ne 138, 3) := by decide +kernel
theorem dX8_lesson_50 : decode cX8_lesson 50 = .ok (.aload_n 0, 1) := by decide +kernel
theorem dX8_lesson_51 : decode cX8_lesson 51 = .ok (.getfield 7, 3) := by decide +kernel
theorem dX8_lesson_54 : decode cX8_lesson 54 = .ok (.iload 4, 2) := by decide +kernel
theorem dX8_lesson_56 : decode cX8_lesson 56 = .ok (.bipush 11, 2) := by decide +kernel
theorem dX8_lesson_58 : decode cX8_lesson 58 = .ok (.iload_n 3, 1) := by decide +kernel
theorem dX8_lesson_59 : decode cX8_lesson 59 = .ok (.iadd, 1) := by decide +kernel
theorem dX8_lesson_60 : decode cX8_lesson 60 = .ok (.invokestatic 56, 3) := by decide +kernel
theorem dX8_lesson_63 : decode cX8_lesson 63 = .ok (.aload_n 0, 1) := by decide +kernel
theorem dX8_lesson_64 : decode cX8_lesson 64 = .ok (.iload 4, 2) := by decide +kernel
theorem dX8_lesson_66 : decode cX8_lesson 66 = .ok (.bipush 11, 2) := by decide +kernel
theorem dX8_lesson_68 : decode cX8_lesson 68 = .ok (.iload_n 3, 1) := by decide +kernel
theorem dX8_lesson_69 : decode cX8_lesson 69 = .ok (.iadd, 1) := by decide +kernel
theorem dX8_lesson_70 : decode cX8_lesson 70 = .ok (.invokevirtual 60, 3) := by decide +kernel
theorem dX8_lesson_73 : decode cX8_lesson 73 = .ok (.iconst 1, 1) := by decide +kernel
theorem dX8_lesson_74 : decode cX8_lesson 74 = .ok (.iadd, 1) := by decide +kernel
theorem dX8_lesson_75 : decode cX8_lesson 75 = .ok (.iconst 0, 1) := by decide +kernel
theorem dX8_lesson_76 : decode cX8_lesson 76 = .ok (.bipush 99, 2) := by decide +kernel
theorem dX8_lesson_78 : decode cX8_lesson 78 = .ok (.invokestatic 75, 3) := by decide +kernel
theorem dX8_lesson_81 : decode cX8_lesson 81 = .ok (.iastore, 1) := by decide +kernel
theorem dX8_lesson_82 : decode cX8_lesson 82 = .ok (.aload_n 0, 1) := by decide +kernel
theorem dX8_lesson_83 : decode cX8_lesson 83 = .ok (.iload 4, 2) := by decide +kernel
theorem dX8_lesson_85 : decode cX8_lesson 85 = .ok (.bipush 11, 2) := by decide +kernel
theorem dX8_lesson_87 : decode cX8_lesson 87 = .ok (.iload_n 3, 1) := by decide +kernel
theorem dX8_lesson_88 : decode cX8_lesson 88 = .ok (.iadd, 1) := by decide +kernel
theorem dX8_lesson_89 : decode cX8_lesson 89 = .ok (.invokevirtual 60, 3) := by decide +kernel
theorem dX8_lesson_92 : decode cX8_lesson 92 = .ok (.aload_n 0, 1) := by decide +kernel
theorem dX8_lesson_93 : decode cX8_lesson 93 = .ok (.iload 4, 2) := by decide +kernel
theorem dX8_lesson_95 : decode cX8_lesson 95 = .ok (.iload_n 3, 1) := by decide +kernel
theorem dX8_lesson_96 : decode cX8_lesson 96 = .ok (.invokevirtual 95, 3) := by decide +kernel
theorem dX8_lesson_99 : decode cX8_lesson 99 = .ok (.if_icmp .lt 86, 3) := by decide +kernel
theorem dX8_lesson_102 : decode cX8_lesson 102 = .ok (.aload_n 0, 1) := by decide +kernel
theorem dX8_lesson_103 : decode cX8_lesson 103 = .ok (.iload_n 1, 1) := by decide +kernel
theorem dX8_lesson_104 : decode cX8_lesson 104 = .ok (.iload_n 3, 1) := by decide +kernel
theorem dX8_lesson_105 : decode cX8_lesson 105 = .ok (.invokevirtual 221, 3) := by decide +kernel
theorem dX8_lesson_108 : decode cX8_lesson 108 = .ok (.istore 5, 2) := by decide +kernel
theorem dX8_lesson_110 : decode cX8_lesson 110 = .ok (.iload_n 2, 1) := by decide +kernel
theorem dX8_lesson_111 : decode cX8_lesson 111 = .ok (.ifCond .eq 42, 3) := by decide +kernel
theorem dX8_lesson_114 : decode cX8_lesson 114 = .ok (.aload_n 0, 1) := by decide +kernel
theorem dX8_lesson_115 : decode cX8_lesson 115 = .ok (.invokevirtual 224, 3) := by decide +kernel
theorem dX8_lesson_118 : decode cX8_lesson 118 = .ok (.bipush 16, 2) := by decide +kernel
theorem dX8_lesson_120 : decode cX8_lesson 120 = .ok (.irem, 1) := by decide +kernel
theorem dX8_lesson_121 : decode cX8_lesson 121 = .ok (.aload_n 0, 1) := by decide +kernel
theorem dX8_lesson_122 : decode cX8_lesson 122 = .ok (.getfield 7, 3) := by decide +kernel
theorem dX8_lesson_125 : decode cX8_lesson 125 = .ok (.iconst 5, 1) := by decide +kernel
theorem dX8_lesson_126 : decode cX8_lesson 126 = .ok (.iaload, 1) := by decide +kernel
theorem dX8_lesson_127 : decode cX8_lesson 127 = .ok (.if_icmp .ge 26, 3) := by decide +kernel
theorem dX8_lesson_130 : decode cX8_lesson 130 = .ok (.iload 5, 2) := by decide +kernel
theorem dX8_lesson_132 : decode cX8_lesson 132 = .ok (.iconst 1, 1) := by decide +kernel
theorem dX8_lesson_133 : decode cX8_lesson 133 = .ok (.iadd, 1) := by decide +kernel
theorem dX8_lesson_134 : decode cX8_lesson 134 = .ok (.iconst 0, 1) := by decide +kernel
theorem dX8_lesson_135 : decode cX8_lesson 135 = .ok (.sipush 999, 3) := by decide +kernel
theorem dX8_lesson_138 : decode cX8_lesson 138 = .ok (.invokestatic 75, 3) := by decide +kernel
theorem dX8_lesson_141 : decode cX8_lesson 141 = .ok (.istore 5, 2) := by decide +kernel
theorem dX8_lesson_143 : decode cX8_lesson 143 = .ok (.aload_n 0, 1) := by decide +kernel
theorem dX8_lesson_144 : decode cX8_lesson 144 = .ok (.dup, 1) := by decide +kernel
theorem dX8_lesson_145 : decode cX8_lesson 145 = .ok (.getfield 227, 3) := by decide +kernel
theorem dX8_lesson_148 : decode cX8_lesson 148 = .ok (.iconst 1, 1) := by decide +kernel
theorem dX8_lesson_149 : decode cX8_lesson 149 = .ok (.iadd, 1) := by decide +kernel
theorem dX8_lesson_150 : decode cX8_lesson 150 = .ok (.putfield 227, 3) := by decide +kernel
theorem dX8_lesson_153 : decode cX8_lesson 153 = .ok (.aload_n 0, 1) := by decide +kernel
theorem dX8_lesson_154 : decode cX8_lesson 154 = .ok (.getfield 7, 3) := by decide +kernel
theorem dX8_lesson_157 : decode cX8_lesson 157 = .ok (.iload 4, 2) := by decide +kernel
theorem dX8_lesson_159 : decode cX8_lesson 159 = .ok (.iconst 3, 1) := by decide +kernel
theorem dX8_lesson_160 : decode cX8_lesson 160 = .ok (.invokestatic 56, 3) := by decide +kernel
theorem dX8_lesson_163 : decode cX8_lesson 163 = .ok (.dup2, 1) := by decide +kernel
theorem dX8_lesson_164 : decode cX8_lesson 164 = .ok (.iaload, 1) := by decide +kernel
theorem dX8_lesson_165 : decode cX8_lesson 165 = .ok (.iconst 1, 1) := by decide +kernel
theorem dX8_lesson_166 : decode cX8_lesson 166 = .ok (.iload_n 3, 1) := by decide +kernel
theorem dX8_lesson_167 : decode cX8_lesson 167 = .ok (.ishl, 1) := by decide +kernel
theorem dX8_lesson_168 : decode cX8_lesson 168 = .ok (.ior, 1) := by decide +kernel
theorem dX8_lesson_169 : decode cX8_lesson 169 = .ok (.iastore, 1) := by decide +kernel
theorem dX8_lesson_170 : decode cX8_lesson 170 = .ok (.aload_n 0, 1) := by decide +kernel
theorem dX8_lesson_171 : decode cX8_lesson 171 = .ok (.getfield 7, 3) := by decide +kernel
theorem dX8_lesson_174 : decode cX8_lesson 174 = .ok (.iload 4, 2) := by decide +kernel
theorem dX8_lesson_176 : decode cX8_lesson 176 = .ok (.iconst 5, 1) := by decide +kernel
theorem dX8_lesson_177 : decode cX8_lesson 177 = .ok (.iload_n 3, 1) := by decide +kernel
theorem dX8_lesson_178 : decode cX8_lesson 178 = .ok (.iadd, 1) := by decide +kernel
theorem dX8_lesson_179 : decode cX8_lesson 179 = .ok (.invokestatic 56, 3) := by decide +kernel
theorem dX8_lesson_182 : decode cX8_lesson 182 = .ok (.iload 5, 2) := by decide +kernel
theorem dX8_lesson_184 : decode cX8_lesson 184 = .ok (.iastore, 1) := by decide +kernel
theorem dX8_lesson_185 : decode cX8_lesson 185 = .ok (.return_, 1) := by decide +kernel
theorem dX8_day_0 : decode cX8_day 0 = .ok (.aload_n 0, 1) := by decide +kernel
theorem dX8_day_1 : decode cX8_day 1 = .ok (.invokevirtual 230, 3) := by decide +kernel
theorem dX8_day_4 : decode cX8_day 4 = .ok (.iconst 0, 1) := by decide +kernel
theorem dX8_day_5 : decode cX8_day 5 = .ok (.istore_n 2, 1) := by decide +kernel
theorem dX8_day_6 : decode cX8_day 6 = .ok (.iload_n 2, 1) := by decide +kernel
theorem dX8_day_7 : decode cX8_day 7 = .ok (.aload_n 0, 1) := by decide +kernel
theorem dX8_day_8 : decode cX8_day 8 = .ok (.getfield 7, 3) := by decide +kernel
theorem dX8_day_11 : decode cX8_day 11 = .ok (.iconst 0, 1) := by decide +kernel
theorem dX8_day_12 : decode cX8_day 12 = .ok (.iaload, 1) := by decide +kernel
theorem dX8_day_13 : decode cX8_day 13 = .ok (.if_icmp .ge 25, 3) := by decide +kernel
theorem dX8_day_16 : decode cX8_day 16 = .ok (.aload_n 0, 1) := by decide +kernel
theorem dX8_day_17 : decode cX8_day 17 = .ok (.getfield 7, 3) := by decide +kernel
theorem dX8_day_20 : decode cX8_day 20 = .ok (.iconst 0, 1) := by decide +kernel
theorem dX8_day_21 : decode cX8_day 21 = .ok (.iaload, 1) := by decide +kernel
theorem dX8_day_22 : decode cX8_day 22 = .ok (.iconst 1, 1) := by decide +kernel
theorem dX8_day_23 : decode cX8_day 23 = .ok (.if_icmp .le 15, 3) := by decide +kernel
theorem dX8_day_26 : decode cX8_day 26 = .ok (.aload_n 0, 1) := by decide +kernel
theorem dX8_day_27 : decode cX8_day 27 = .ok (.iload_n 2, 1) := by decide +kernel
theorem dX8_day_28 : decode cX8_day 28 = .ok (.iload_n 1, 1) := by decide +kernel
theorem dX8_day_29 : decode cX8_day 29 = .ok (.invokevirtual 233, 3) := by decide +kernel
theorem dX8_day_32 : decode cX8_day 32 = .ok (.iinc 2 1, 3) := by decide +kernel
theorem dX8_day_35 : decode cX8_day 35 = .ok (.goto (-29), 3) := by decide +kernel
theorem dX8_day_38 : decode cX8_day 38 = .ok (.iconst 0, 1) := by decide +kernel
theorem dX8_day_39 : decode cX8_day 39 = .ok (.istore_n 2, 1) := by decide +kernel
theorem dX8_day_40 : decode cX8_day 40 = .ok (.iload_n 2, 1) := by decide +kernel
theorem dX8_day_41 : decode cX8_day 41 = .ok (.iconst 4, 1) := by decide +kernel
theorem dX8_day_42 : decode cX8_day 42 = .ok (.if_icmp .ge 71, 3) := by decide +kernel
theorem dX8_day_45 : decode cX8_day 45 = .ok (.aload_n 0, 1) := by decide +kernel
theorem dX8_day_46 : decode cX8_day 46 = .ok (.aload_n 0, 1) := by decide +kernel
theorem dX8_day_47 : decode cX8_day 47 = .ok (.iload_n 2, 1) := by decide +kernel
theorem dX8_day_48 : decode cX8_day 48 = .ok (.iconst 0, 1) := by decide +kernel
theorem dX8_day_49 : decode cX8_day 49 = .ok (.invokevirtual 136, 3) := by decide +kernel
theorem dX8_day_52 : decode cX8_day 52 = .ok (.invokevirtual 139, 3) := by decide +kernel
theorem dX8_day_55 : decode cX8_day 55 = .ok (.aload_n 0, 1) := by decide +kernel
theorem dX8_day_56 : decode cX8_day 56 = .ok (.iload_n 2, 1) := by decide +kernel
theorem dX8_day_57 : decode cX8_day 57 = .ok (.iconst 1, 1) := by decide +kernel
theorem dX8_day_58 : decode cX8_day 58 = .ok (.invokevirtual 136, 3) := by decide +kernel
theorem dX8_day_61 : decode cX8_day 61 = .ok (.if_icmp .lt 7, 3) := by decide +kernel
theorem dX8_day_64 : decode cX8_day 64 = .ok (.iconst 2, 1) := by decide +kernel
theorem dX8_day_65 : decode cX8_day 65 = .ok (.goto 4, 3) := by decide +kernel
theorem dX8_day_68 : decode cX8_day 68 = .ok (.iconst 3, 1) := by decide +kernel
theorem dX8_day_69 : decode cX8_day 69 = .ok (.istore_n 3, 1) := by decide +kernel
theorem dX8_day_70 : decode cX8_day 70 = .ok (.aload_n 0, 1) := by decide +kernel
theorem dX8_day_71 : decode cX8_day 71 = .ok (.getfield 7, 3) := by decide +kernel
theorem dX8_day_74 : decode cX8_day 74 = .ok (.iload_n 2, 1) := by decide +kernel
theorem dX8_day_75 : decode cX8_day 75 = .ok (.iload_n 3, 1) := by decide +kernel
theorem dX8_day_76 : decode cX8_day 76 = .ok (.invokestatic 131, 3) := by decide +kernel
theorem dX8_day_79 : decode cX8_day 79 = .ok (.aload_n 0, 1) := by decide +kernel
theorem dX8_day_80 : decode cX8_day 80 = .ok (.iload_n 2, 1) := by decide +kernel
theorem dX8_day_81 : decode cX8_day 81 = .ok (.iload_n 3, 1) := by decide +kernel
theorem dX8_day_82 : decode cX8_day 82 = .ok (.invokevirtual 136, 3) := by decide +kernel
theorem dX8_day_85 : decode cX8_day 85 = .ok (.aload_n 0, 1) := by decide +kernel
theorem dX8_day_86 : decode cX8_day 86 = .ok (.iload_n 2, 1) := by decide +kernel
theorem dX8_day_87 : decode cX8_day 87 = .ok (.iconst 1, 1) := by decide +kernel
theorem dX8_day_88 : decode cX8_day 88 = .ok (.invokevirtual 136, 3) := by decide +kernel
theorem dX8_day_91 : decode cX8_day 91 = .ok (.ifCond .le 7, 3) := by decide +kernel
theorem dX8_day_94 : decode cX8_day 94 = .ok (.iconst 1, 1) := by decide +kernel
theorem dX8_day_95 : decode cX8_day 95 = .ok (.goto 4, 3) := by decide +kernel
theorem dX8_day_98 : decode cX8_day 98 = .ok (.iconst 0, 1) := by decide +kernel
theorem dX8_day_99 : decode cX8_day 99 = .ok (.iadd, 1) := by decide +kernel
theorem dX8_day_100 : decode cX8_day 100 = .ok (.iconst 0, 1) := by decide +kernel
theorem dX8_day_101 : decode cX8_day 101 = .ok (.ldc 237, 2) := by decide +kernel
theorem dX8_day_103 : decode cX8_day 103 = .ok (.invokestatic 75, 3) := by decide +kernel
theorem dX8_day_106 : decode cX8_day 106 = .ok (.iastore, 1) := by decide +kernel
theorem dX8_day_107 : decode cX8_day 107 = .ok (.iinc 2 1, 3) := by decide +kernel
theorem dX8_day_110 : decode cX8_day 110 = .ok (.goto (-70), 3) := by decide +kernel
theorem dX8_day_113 : decode cX8_day 113 = .ok (.aload_n 0, 1) := by decide +kernel
theorem dX8_day_114 : decode cX8_day 114 = .ok (.getfield 7, 3) := by decide +kernel
theorem dX8_day_117 : decode cX8_day 117 = .ok (.iconst 3, 1) := by decide +kernel
theorem dX8_day_118 : decode cX8_day 118 = .ok (.dup2, 1) := by decide +kernel
theorem dX8_day_119 : decode cX8_day 119 = .ok (.iaload, 1) := by decide +kernel
theorem dX8_day_120 : decode cX8_day 120 = .ok (.iconst 1, 1) := by decide +kernel
theorem dX8_day_121 : decode cX8_day 121 = .ok (.iadd, 1) := by decide +kernel
theorem dX8_day_122 : decode cX8_day 122 = .ok (.iastore, 1) := by decide +kernel
theorem dX8_day_123 : decode cX8_day 123 = .ok (.return_, 1) := by decide +kernel
theorem dX8_daysGo_0 : decode cX8_daysGo 0 = .ok (.aload_n 0, 1) := by decide +kernel
theorem dX8_daysGo_1 : decode cX8_daysGo 1 = .ok (.iconst 0, 1) := by decide +kernel
theorem dX8_daysGo_2 : decode cX8_daysGo 2 = .ok (.putfield 215, 3) := by decide +kernel
theorem dX8_daysGo_5 : decode cX8_daysGo 5 = .ok (.aload_n 0, 1) := by decide +kernel
theorem dX8_daysGo_6 : decode cX8_daysGo 6 = .ok (.iconst 0, 1) := by decide +kernel
theorem dX8_daysGo_7 : decode cX8_daysGo 7 = .ok (.putfield 227, 3) := by decide +kernel
theorem dX8_daysGo_10 : decode cX8_daysGo 10 = .ok (.iconst 0, 1) := by decide +kernel
theorem dX8_daysGo_11 : decode cX8_daysGo 11 = .ok (.istore_n 3, 1) := by decide +kernel
theorem dX8_daysGo_12 : decode cX8_daysGo 12 = .ok (.iload_n 3, 1) := by decide +kernel
theorem dX8_daysGo_13 : decode cX8_daysGo 13 = .ok (.iload_n 1, 1) := by decide +kernel
theorem dX8_daysGo_14 : decode cX8_daysGo 14 = .ok (.if_icmp .ge 14, 3) := by decide +kernel
theorem dX8_daysGo_17 : decode cX8_daysGo 17 = .ok (.aload_n 0, 1) := by decide +kernel
theorem dX8_daysGo_18 : decode cX8_daysGo 18 = .ok (.iload_n 2, 1) := by decide +kernel
theorem dX8_daysGo_19 : decode cX8_daysGo 19 = .ok (.invokevirtual 238, 3) := by decide +kernel
theorem dX8_daysGo_22 : decode cX8_daysGo 22 = .ok (.iinc 3 1, 3) := by decide +kernel
theorem dX8_daysGo_25 : decode cX8_daysGo 25 = .ok (.goto (-13), 3) := by decide +kernel
theorem dX8_daysGo_28 : decode cX8_daysGo 28 = .ok (.return_, 1) := by decide +kernel
theorem dX8_isSpan_0 : decode cX8_isSpan 0 = .ok (.iload_n 0, 1) := by decide +kernel
theorem dX8_isSpan_1 : decode cX8_isSpan 1 = .ok (.i2l, 1) := by decide +kernel
theorem dX8_isSpan_2 : decode cX8_isSpan 2 = .ok (.lconst 1, 1) := by decide +kernel
theorem dX8_isSpan_3 : decode cX8_isSpan 3 = .ok (.ldc2_w 242, 3) := by decide +kernel
theorem dX8_isSpan_6 : decode cX8_isSpan 6 = .ok (.invokestatic 44, 3) := by decide +kernel
theorem dX8_isSpan_9 : decode cX8_isSpan 9 = .ok (.ireturn, 1) := by decide +kernel
theorem dX8_daysWrong_0 : decode cX8_daysWrong 0 = .ok (.iload_n 1, 1) := by decide +kernel
theorem dX8_daysWrong_1 : decode cX8_daysWrong 1 = .ok (.invokestatic 244, 3) := by decide +kernel
theorem dX8_daysWrong_4 : decode cX8_daysWrong 4 = .ok (.ifCond .ne 8, 3) := by decide +kernel
theorem dX8_daysWrong_7 : decode cX8_daysWrong 7 = .ok (.ldc 43, 2) := by decide +kernel
theorem dX8_daysWrong_9 : decode cX8_daysWrong 9 = .ok (.goto 23, 3) := by decide +kernel
theorem dX8_daysWrong_12 : decode cX8_daysWrong 12 = .ok (.aload_n 0, 1) := by decide +kernel
theorem dX8_daysWrong_13 : decode cX8_daysWrong 13 = .ok (.getfield 7, 3) := by decide +kernel
theorem dX8_daysWrong_16 : decode cX8_daysWrong 16 = .ok (.iconst 3, 1) := by decide +kernel
theorem dX8_daysWrong_17 : decode cX8_daysWrong 17 = .ok (.iaload, 1) := by decide +kernel
theorem dX8_daysWrong_18 : decode cX8_daysWrong 18 = .ok (.iload_n 1, 1) := by decide +kernel
theorem dX8_daysWrong_19 : decode cX8_daysWrong 19 = .ok (.iadd, 1) := by decide +kernel
theorem dX8_daysWrong_20 : decode cX8_daysWrong 20 = .ok (.sipush 9999, 3) := by decide +kernel
theorem dX8_daysWrong_23 : decode cX8_daysWrong 23 = .ok (.if_icmp .le 8, 3) := by decide +kernel
theorem dX8_daysWrong_26 : decode cX8_daysWrong 26 = .ok (.ldc 247, 2) := by decide +kernel
theorem dX8_daysWrong_28 : decode cX8_daysWrong 28 = .ok (.goto 4, 3) := by decide +kernel
theorem dX8_daysWrong_31 : decode cX8_daysWrong 31 = .ok (.iconst 0, 1) := by decide +kernel
theorem dX8_daysWrong_32 : decode cX8_daysWrong 32 = .ok (.ireturn, 1) := by decide +kernel
theorem dX8_days_0 : decode cX8_days 0 = .ok (.aload_n 0, 1) := by decide +kernel
theorem dX8_days_1 : decode cX8_days 1 = .ok (.iload_n 1, 1) := by decide +kernel
theorem dX8_days_2 : decode cX8_days 2 = .ok (.invokevirtual 248, 3) := by decide +kernel
theorem dX8_days_5 : decode cX8_days 5 = .ok (.istore_n 2, 1) := by decide +kernel
theorem dX8_days_6 : decode cX8_days 6 = .ok (.iload_n 2, 1) := by decide +kernel
theorem dX8_days_7 : decode cX8_days 7 = .ok (.ifCond .eq 9, 3) := by decide +kernel
theorem dX8_days_10 : decode cX8_days 10 = .ok (.aload_n 0, 1) := by decide +kernel
theorem dX8_days_11 : decode cX8_days 11 = .ok (.iload_n 2, 1) := by decide +kernel
theorem dX8_days_12 : decode cX8_days 12 = .ok (.invokevirtual 84, 3) := by decide +kernel
theorem dX8_days_15 : decode cX8_days 15 = .ok (.ireturn, 1) := by decide +kernel
theorem dX8_days_16 : decode cX8_days 16 = .ok (.aload_n 0, 1) := by decide +kernel
theorem dX8_days_17 : decode cX8_days 17 = .ok (.iload_n 1, 1) := by decide +kernel
theorem dX8_days_18 : decode cX8_days 18 = .ok (.iconst 0, 1) := by decide +kernel
theorem dX8_days_19 : decode cX8_days 19 = .ok (.invokevirtual 251, 3) := by decide +kernel
theorem dX8_days_22 : decode cX8_days 22 = .ok (.aload_n 0, 1) := by decide +kernel
theorem dX8_days_23 : decode cX8_days 23 = .ok (.getfield 215, 3) := by decide +kernel
theorem dX8_days_26 : decode cX8_days 26 = .ok (.ireturn, 1) := by decide +kernel
theorem dX8_draws_0 : decode cX8_draws 0 = .ok (.aload_n 0, 1) := by decide +kernel
theorem dX8_draws_1 : decode cX8_draws 1 = .ok (.iload_n 1, 1) := by decide +kernel
theorem dX8_draws_2 : decode cX8_draws 2 = .ok (.invokevirtual 248, 3) := by decide +kernel
theorem dX8_draws_5 : decode cX8_draws 5 = .ok (.istore_n 2, 1) := by decide +kernel
theorem dX8_draws_6 : decode cX8_draws 6 = .ok (.iload_n 2, 1) := by decide +kernel
theorem dX8_draws_7 : decode cX8_draws 7 = .ok (.ifCond .eq 9, 3) := by decide +kernel
theorem dX8_draws_10 : decode cX8_draws 10 = .ok (.aload_n 0, 1) := by decide +kernel
theorem dX8_draws_11 : decode cX8_draws 11 = .ok (.iload_n 2, 1) := by decide +kernel
theorem dX8_draws_12 : decode cX8_draws 12 = .ok (.invokevirtual 84, 3) := by decide +kernel
theorem dX8_draws_15 : decode cX8_draws 15 = .ok (.ireturn, 1) := by decide +kernel
theorem dX8_draws_16 : decode cX8_draws 16 = .ok (.aload_n 0, 1) := by decide +kernel
theorem dX8_draws_17 : decode cX8_draws 17 = .ok (.iload_n 1, 1) := by decide +kernel
theorem dX8_draws_18 : decode cX8_draws 18 = .ok (.iconst 1, 1) := by decide +kernel
theorem dX8_draws_19 : decode cX8_draws 19 = .ok (.invokevirtual 251, 3) := by decide +kernel
theorem dX8_draws_22 : decode cX8_draws 22 = .ok (.aload_n 0, 1) := by decide +kernel
theorem dX8_draws_23 : decode cX8_draws 23 = .ok (.getfield 227, 3) := by decide +kernel
theorem dX8_draws_26 : decode cX8_draws 26 = .ok (.ireturn, 1) := by decide +kernel
theorem dX8_misheard_0 : decode cX8_misheard 0 = .ok (.iload_n 1, 1) := by decide +kernel
theorem dX8_misheard_1 : decode cX8_misheard 1 = .ok (.i2l, 1) := by decide +kernel
theorem dX8_misheard_2 : decode cX8_misheard 2 = .ok (.lconst 0, 1) := by decide +kernel
theorem dX8_misheard_3 : decode cX8_misheard 3 = .ok (.ldc2_w 254, 3) := by decide +kernel
theorem dX8_misheard_6 : decode cX8_misheard 6 = .ok (.invokestatic 44, 3) := by decide +kernel
theorem dX8_misheard_9 : decode cX8_misheard 9 = .ok (.ifCond .ne 10, 3) := by decide +kernel
theorem dX8_misheard_12 : decode cX8_misheard 12 = .ok (.aload_n 0, 1) := by decide +kernel
theorem dX8_misheard_13 : decode cX8_misheard 13 = .ok (.ldc 43, 2) := by decide +kernel
theorem dX8_misheard_15 : decode cX8_misheard 15 = .ok (.invokevirtual 84, 3) := by decide +kernel
theorem dX8_misheard_18 : decode cX8_misheard 18 = .ok (.ireturn, 1) := by decide +kernel
theorem dX8_misheard_19 : decode cX8_misheard 19 = .ok (.aload_n 0, 1) := by decide +kernel
theorem dX8_misheard_20 : decode cX8_misheard 20 = .ok (.getfield 7, 3) := by decide +kernel
theorem dX8_misheard_23 : decode cX8_misheard 23 = .ok (.iconst 5, 1) := by decide +kernel
theorem dX8_misheard_24 : decode cX8_misheard 24 = .ok (.iaload, 1) := by decide +kernel
theorem dX8_misheard_25 : decode cX8_misheard 25 = .ok (.istore_n 2, 1) := by decide +kernel
theorem dX8_misheard_26 : decode cX8_misheard 26 = .ok (.aload_n 0, 1) := by decide +kernel
theorem dX8_misheard_27 : decode cX8_misheard 27 = .ok (.getfield 7, 3) := by decide +kernel
theorem dX8_misheard_30 : decode cX8_misheard 30 = .ok (.iconst 5, 1) := by decide +kernel
theorem dX8_misheard_31 : decode cX8_misheard 31 = .ok (.iload_n 1, 1) := by decide +kernel
theorem dX8_misheard_32 : decode cX8_misheard 32 = .ok (.iastore, 1) := by decide +kernel
theorem dX8_misheard_33 : decode cX8_misheard 33 = .ok (.iload_n 2, 1) := by decide +kernel
theorem dX8_misheard_34 : decode cX8_misheard 34 = .ok (.ireturn, 1) := by decide +kernel
theorem dX8_seed_0 : decode cX8_seed 0 = .ok (.aload_n 0, 1) := by decide +kernel
theorem dX8_seed_1 : decode cX8_seed 1 = .ok (.getfield 7, 3) := by decide +kernel
theorem dX8_seed_4 : decode cX8_seed 4 = .ok (.bipush 6, 2) := by decide +kernel
theorem dX8_seed_6 : decode cX8_seed 6 = .ok (.iaload, 1) := by decide +kernel
theorem dX8_seed_7 : decode cX8_seed 7 = .ok (.istore_n 2, 1) := by decide +kernel
theorem dX8_seed_8 : decode cX8_seed 8 = .ok (.aload_n 0, 1) := by decide +kernel
theorem dX8_seed_9 : decode cX8_seed 9 = .ok (.getfield 7, 3) := by decide +kernel
theorem dX8_seed_12 : decode cX8_seed 12 = .ok (.bipush 6, 2) := by decide +kernel
theorem dX8_seed_14 : decode cX8_seed 14 = .ok (.iload_n 1, 1) := by decide +kernel
theorem dX8_seed_15 : decode cX8_seed 15 = .ok (.iastore, 1) := by decide +kernel
theorem dX8_seed_16 : decode cX8_seed 16 = .ok (.iload_n 2, 1) := by decide +kernel
theorem dX8_seed_17 : decode cX8_seed 17 = .ok (.ireturn, 1) := by decide +kernel
theorem dX8_then_0 : decode cX8_then 0 = .ok (.iload_n 1, 1) := by decide +kernel
theorem dX8_then_1 : decode cX8_then 1 = .ok (.i2l, 1) := by decide +kernel
theorem dX8_then_2 : decode cX8_then 2 = .ok (.lconst 0, 1) := by decide +kernel
theorem dX8_then_3 : decode cX8_then 3 = .ok (.ldc2_w 242, 3) := by decide +kernel
theorem dX8_then_6 : decode cX8_then 6 = .ok (.invokestatic 44, 3) := by decide +kernel
theorem dX8_then_9 : decode cX8_then 9 = .ok (.ifCond .eq 23, 3) := by decide +kernel
theorem dX8_then_12 : decode cX8_then 12 = .ok (.aload_n 0, 1) := by decide +kernel
theorem dX8_then_13 : decode cX8_then 13 = .ok (.iload_n 2, 1) := by decide +kernel
theorem dX8_then_14 : decode cX8_then 14 = .ok (.invokevirtual 98, 3) := by decide +kernel
theorem dX8_then_17 : decode cX8_then 17 = .ok (.ifCond .eq 15, 3) := by decide +kernel
theorem dX8_then_20 : decode cX8_then 20 = .ok (.iload_n 3, 1) := by decide +kernel
theorem dX8_then_21 : decode cX8_then 21 = .ok (.i2l, 1) := by decide +kernel
theorem dX8_then_22 : decode cX8_then 22 = .ok (.lconst 0, 1) := by decide +kernel
theorem dX8_then_23 : decode cX8_then 23 = .ok (.ldc2_w 101, 3) := by decide +kernel
theorem dX8_then_26 : decode cX8_then 26 = .ok (.invokestatic 44, 3) := by decide +kernel
theorem dX8_then_29 : decode cX8_then 29 = .ok (.ifCond .ne 10, 3) := by decide +kernel
theorem dX8_then_32 : decode cX8_then 32 = .ok (.aload_n 0, 1) := by decide +kernel
theorem dX8_then_33 : decode cX8_then 33 = .ok (.ldc 43, 2) := by decide +kernel
theorem dX8_then_35 : decode cX8_then 35 = .ok (.invokevirtual 84, 3) := by decide +kernel
theorem dX8_then_38 : decode cX8_then 38 = .ok (.ireturn, 1) := by decide +kernel
theorem dX8_then_39 : decode cX8_then 39 = .ok (.aload_n 0, 1) := by decide +kernel
theorem dX8_then_40 : decode cX8_then 40 = .ok (.invokevirtual 256, 3) := by decide +kernel
theorem dX8_then_43 : decode cX8_then 43 = .ok (.aload_n 0, 1) := by decide +kernel
theorem dX8_then_44 : decode cX8_then 44 = .ok (.iload_n 1, 1) := by decide +kernel
theorem dX8_then_45 : decode cX8_then 45 = .ok (.iconst 0, 1) := by decide +kernel
theorem dX8_then_46 : decode cX8_then 46 = .ok (.invokevirtual 251, 3) := by decide +kernel
theorem dX8_then_49 : decode cX8_then 49 = .ok (.aload_n 0, 1) := by decide +kernel
theorem dX8_then_50 : decode cX8_then 50 = .ok (.iload_n 2, 1) := by decide +kernel
theorem dX8_then_51 : decode cX8_then 51 = .ok (.iload_n 3, 1) := by decide +kernel
theorem dX8_then_52 : decode cX8_then 52 = .ok (.invokevirtual 103, 3) := by decide +kernel
theorem dX8_then_55 : decode cX8_then 55 = .ok (.istore 4, 2) := by decide +kernel
theorem dX8_then_57 : decode cX8_then 57 = .ok (.aload_n 0, 1) := by decide +kernel
theorem dX8_then_58 : decode cX8_then 58 = .ok (.invokevirtual 259, 3) := by decide +kernel
theorem dX8_then_61 : decode cX8_then 61 = .ok (.iload 4, 2) := by decide +kernel
theorem dX8_then_63 : decode cX8_then 63 = .ok (.ireturn, 1) := by decide +kernel
theorem dX8_thenTask_0 : decode cX8_thenTask 0 = .ok (.iload_n 1, 1) := by decide +kernel
theorem dX8_thenTask_1 : decode cX8_thenTask 1 = .ok (.i2l, 1) := by decide +kernel
theorem dX8_thenTask_2 : decode cX8_thenTask 2 = .ok (.lconst 0, 1) := by decide +kernel
theorem dX8_thenTask_3 : decode cX8_thenTask 3 = .ok (.ldc2_w 242, 3) := by decide +kernel
theorem dX8_thenTask_6 : decode cX8_thenTask 6 = .ok (.invokestatic 44, 3) := by decide +kernel
theorem dX8_thenTask_9 : decode cX8_thenTask 9 = .ok (.ifCond .eq 27, 3) := by decide +kernel
theorem dX8_thenTask_12 : decode cX8_thenTask 12 = .ok (.iload_n 2, 1) := by decide +kernel
theorem dX8_thenTask_13 : decode cX8_thenTask 13 = .ok (.i2l, 1) := by decide +kernel
theorem dX8_thenTask_14 : decode cX8_thenTask 14 = .ok (.lconst 0, 1) := by decide +kernel
theorem dX8_thenTask_15 : decode cX8_thenTask 15 = .ok (.ldc2_w 134, 3) := by decide +kernel
theorem dX8_thenTask_18 : decode cX8_thenTask 18 = .ok (.invokestatic 44, 3) := by decide +kernel
theorem dX8_thenTask_21 : decode cX8_thenTask 21 = .ok (.ifCond .eq 15, 3) := by decide +kernel
theorem dX8_thenTask_24 : decode cX8_thenTask 24 = .ok (.iload_n 3, 1) := by decide +kernel
theorem dX8_thenTask_25 : decode cX8_thenTask 25 = .ok (.i2l, 1) := by decide +kernel
theorem dX8_thenTask_26 : decode cX8_thenTask 26 = .ok (.lconst 0, 1) := by decide +kernel
theorem dX8_thenTask_27 : decode cX8_thenTask 27 = .ok (.ldc2_w 142, 3) := by decide +kernel
theorem dX8_thenTask_30 : decode cX8_thenTask 30 = .ok (.invokestatic 44, 3) := by decide +kernel
theorem dX8_thenTask_33 : decode cX8_thenTask 33 = .ok (.ifCond .ne 10, 3) := by decide +kernel
theorem dX8_thenTask_36 : decode cX8_thenTask 36 = .ok (.aload_n 0, 1) := by decide +kernel
theorem dX8_thenTask_37 : decode cX8_thenTask 37 = .ok (.ldc 43, 2) := by decide +kernel
theorem dX8_thenTask_39 : decode cX8_thenTask 39 = .ok (.invokevirtual 84, 3) := by decide +kernel
theorem dX8_thenTask_42 : decode cX8_thenTask 42 = .ok (.ireturn, 1) := by decide +kernel
theorem dX8_thenTask_43 : decode cX8_thenTask 43 = .ok (.aload_n 0, 1) := by decide +kernel
theorem dX8_thenTask_44 : decode cX8_thenTask 44 = .ok (.invokevirtual 256, 3) := by decide +kernel
theorem dX8_thenTask_47 : decode cX8_thenTask 47 = .ok (.aload_n 0, 1) := by decide +kernel
theorem dX8_thenTask_48 : decode cX8_thenTask 48 = .ok (.iload_n 1, 1) := by decide +kernel
theorem dX8_thenTask_49 : decode cX8_thenTask 49 = .ok (.iconst 0, 1) := by decide +kernel
theorem dX8_thenTask_50 : decode cX8_thenTask 50 = .ok (.invokevirtual 251, 3) := by decide +kernel
theorem dX8_thenTask_53 : decode cX8_thenTask 53 = .ok (.aload_n 0, 1) := by decide +kernel
theorem dX8_thenTask_54 : decode cX8_thenTask 54 = .ok (.iload_n 2, 1) := by decide +kernel
theorem dX8_thenTask_55 : decode cX8_thenTask 55 = .ok (.iload_n 3, 1) := by decide +kernel
theorem dX8_thenTask_56 : decode cX8_thenTask 56 = .ok (.invokevirtual 144, 3) := by decide +kernel
theorem dX8_thenTask_59 : decode cX8_thenTask 59 = .ok (.istore 4, 2) := by decide +kernel
theorem dX8_thenTask_61 : decode cX8_thenTask 61 = .ok (.aload_n 0, 1) := by decide +kernel
theorem dX8_thenTask_62 : decode cX8_thenTask 62 = .ok (.invokevirtual 259, 3) := by decide +kernel
theorem dX8_thenTask_65 : decode cX8_thenTask 65 = .ok (.iload 4, 2) := by decide +kernel
theorem dX8_thenTask_67 : decode cX8_thenTask 67 = .ok (.ireturn, 1) := by decide +kernel
theorem dX8_lost_0 : decode cX8_lost 0 = .ok (.iload_n 1, 1) := by decide +kernel
theorem dX8_lost_1 : decode cX8_lost 1 = .ok (.invokestatic 113, 3) := by decide +kernel
theorem dX8_lost_4 : decode cX8_lost 4 = .ok (.ifCond .eq 15, 3) := by decide +kernel
theorem dX8_lost_7 : decode cX8_lost 7 = .ok (.iload_n 2, 1) := by decide +kernel
theorem dX8_lost_8 : decode cX8_lost 8 = .ok (.i2l, 1) := by decide +kernel
theorem dX8_lost_9 : decode cX8_lost 9 = .ok (.lconst 0, 1) := by decide +kernel
theorem dX8_lost_10 : decode cX8_lost 10 = .ok (.ldc2_w 242, 3) := by decide +kernel
theorem dX8_lost_13 : decode cX8_lost 13 = .ok (.invokestatic 44, 3) := by decide +kernel
theorem dX8_lost_16 : decode cX8_lost 16 = .ok (.ifCond .ne 10, 3) := by decide +kernel
theorem dX8_lost_19 : decode cX8_lost 19 = .ok (.aload_n 0, 1) := by decide +kernel
theorem dX8_lost_20 : decode cX8_lost 20 = .ok (.ldc 43, 2) := by decide +kernel
theorem dX8_lost_22 : decode cX8_lost 22 = .ok (.invokevirtual 84, 3) := by decide +kernel
theorem dX8_lost_25 : decode cX8_lost 25 = .ok (.ireturn, 1) := by decide +kernel
theorem dX8_lost_26 : decode cX8_lost 26 = .ok (.aload_n 0, 1) := by decide +kernel
theorem dX8_lost_27 : decode cX8_lost 27 = .ok (.invokevirtual 256, 3) := by decide +kernel
theorem dX8_lost_30 : decode cX8_lost 30 = .ok (.iconst 0, 1) := by decide +kernel
theorem dX8_lost_31 : decode cX8_lost 31 = .ok (.istore_n 3, 1) := by decide +kernel
theorem dX8_lost_32 : decode cX8_lost 32 = .ok (.iload_n 3, 1) := by decide +kernel
theorem dX8_lost_33 : decode cX8_lost 33 = .ok (.iload_n 2, 1) := by decide +kernel
theorem dX8_lost_34 : decode cX8_lost 34 = .ok (.if_icmp .gt 22, 3) := by decide +kernel
theorem dX8_lost_37 : decode cX8_lost 37 = .ok (.aload_n 0, 1) := by decide +kernel
theorem dX8_lost_38 : decode cX8_lost 38 = .ok (.iload_n 1, 1) := by decide +kernel
theorem dX8_lost_39 : decode cX8_lost 39 = .ok (.invokevirtual 139, 3) := by decide +kernel
theorem dX8_lost_42 : decode cX8_lost 42 = .ok (.ifCond .le 14, 3) := by decide +kernel
theorem dX8_lost_45 : decode cX8_lost 45 = .ok (.aload_n 0, 1) := by decide +kernel
theorem dX8_lost_46 : decode cX8_lost 46 = .ok (.iconst 0, 1) := by decide +kernel
theorem dX8_lost_47 : decode cX8_lost 47 = .ok (.invokevirtual 238, 3) := by decide +kernel
theorem dX8_lost_50 : decode cX8_lost 50 = .ok (.iinc 3 1, 3) := by decide +kernel
theorem dX8_lost_53 : decode cX8_lost 53 = .ok (.goto (-21), 3) := by decide +kernel
theorem dX8_lost_56 : decode cX8_lost 56 = .ok (.aload_n 0, 1) := by decide +kernel
theorem dX8_lost_57 : decode cX8_lost 57 = .ok (.invokevirtual 259, 3) := by decide +kernel
theorem dX8_lost_60 : decode cX8_lost 60 = .ok (.iload_n 3, 1) := by decide +kernel
theorem dX8_lost_61 : decode cX8_lost 61 = .ok (.iload_n 2, 1) := by decide +kernel
theorem dX8_lost_62 : decode cX8_lost 62 = .ok (.if_icmp .le 13, 3) := by decide +kernel
theorem dX8_lost_65 : decode cX8_lost 65 = .ok (.aload_n 0, 1) := by decide +kernel
theorem dX8_lost_66 : decode cX8_lost 66 = .ok (.ldc_w 262, 3) := by decide +kernel
theorem dX8_lost_69 : decode cX8_lost 69 = .ok (.invokevirtual 84, 3) := by decide +kernel
theorem dX8_lost_72 : decode cX8_lost 72 = .ok (.goto 4, 3) := by decide +kernel
theorem dX8_lost_75 : decode cX8_lost 75 = .ok (.iload_n 3, 1) := by decide +kernel
theorem dX8_lost_76 : decode cX8_lost 76 = .ok (.ireturn, 1) := by decide +kernel
theorem dX8_isKept_0 : decode cX8_isKept 0 = .ok (.iconst 0, 1) := by decide +kernel
theorem dX8_isKept_1 : decode cX8_isKept 1 = .ok (.istore 4, 2) := by decide +kernel
theorem dX8_isKept_3 : decode cX8_isKept 3 = .ok (.iload 4, 2) := by decide +kernel
theorem dX8_isKept_5 : decode cX8_isKept 5 = .ok (.aload_n 0, 1) := by decide +kernel
theorem dX8_isKept_6 : decode cX8_isKept 6 = .ok (.getfield 7, 3) := by decide +kernel
theorem dX8_isKept_9 : decode cX8_isKept 9 = .ok (.iconst 0, 1) := by decide +kernel
theorem dX8_isKept_10 : decode cX8_isKept 10 = .ok (.iaload, 1) := by decide +kernel
theorem dX8_isKept_11 : decode cX8_isKept 11 = .ok (.if_icmp .ge 34, 3) := by decide +kernel
theorem dX8_isKept_14 : decode cX8_isKept 14 = .ok (.aload_n 0, 1) := by decide +kernel
theorem dX8_isKept_15 : decode cX8_isKept 15 = .ok (.getfield 7, 3) := by decide +kernel
theorem dX8_isKept_18 : decode cX8_isKept 18 = .ok (.iload 4, 2) := by decide +kernel
theorem dX8_isKept_20 : decode cX8_isKept 20 = .ok (.iconst 4, 1) := by decide +kernel
theorem dX8_isKept_21 : decode cX8_isKept 21 = .ok (.invokestatic 56, 3) := by decide +kernel
theorem dX8_isKept_24 : decode cX8_isKept 24 = .ok (.iload_n 3, 1) := by decide +kernel
theorem dX8_isKept_25 : decode cX8_isKept 25 = .ok (.iload 4, 2) := by decide +kernel
theorem dX8_isKept_27 : decode cX8_isKept 27 = .ok (.invokestatic 63, 3) := by decide +kernel
theorem dX8_isKept_30 : decode cX8_isKept 30 = .ok (.ifCond .eq 7, 3) := by decide +kernel
theorem dX8_isKept_33 : decode cX8_isKept 33 = .ok (.iload_n 1, 1) := by decide +kernel
theorem dX8_isKept_34 : decode cX8_isKept 34 = .ok (.goto 4, 3) := by decide +kernel
theorem dX8_isKept_37 : decode cX8_isKept 37 = .ok (.iconst (-1), 1) := by decide +kernel
theorem dX8_isKept_38 : decode cX8_isKept 38 = .ok (.iastore, 1) := by decide +kernel
theorem dX8_isKept_39 : decode cX8_isKept 39 = .ok (.iinc 4 1, 3) := by decide +kernel
theorem dX8_isKept_42 : decode cX8_isKept 42 = .ok (.goto (-39), 3) := by decide +kernel
theorem dX8_isKept_45 : decode cX8_isKept 45 = .ok (.iconst 1, 1) := by decide +kernel
theorem dX8_isKept_46 : decode cX8_isKept 46 = .ok (.istore 4, 2) := by decide +kernel
theorem dX8_isKept_48 : decode cX8_isKept 48 = .ok (.iconst 0, 1) := by decide +kernel
theorem dX8_isKept_49 : decode cX8_isKept 49 = .ok (.istore 5, 2) := by decide +kernel
theorem dX8_isKept_51 : decode cX8_isKept 51 = .ok (.iload 5, 2) := by decide +kernel
theorem dX8_isKept_53 : decode cX8_isKept 53 = .ok (.iload_n 2, 1) := by decide +kernel
theorem dX8_isKept_54 : decode cX8_isKept 54 = .ok (.if_icmp .ge 34, 3) := by decide +kernel
theorem dX8_isKept_57 : decode cX8_isKept 57 = .ok (.iload 4, 2) := by decide +kernel
theorem dX8_isKept_59 : decode cX8_isKept 59 = .ok (.ifCond .eq 29, 3) := by decide +kernel
theorem dX8_isKept_62 : decode cX8_isKept 62 = .ok (.aload_n 0, 1) := by decide +kernel
theorem dX8_isKept_63 : decode cX8_isKept 63 = .ok (.iconst 0, 1) := by decide +kernel
theorem dX8_isKept_64 : decode cX8_isKept 64 = .ok (.invokevirtual 238, 3) := by decide +kernel
theorem dX8_isKept_67 : decode cX8_isKept 67 = .ok (.aload_n 0, 1) := by decide +kernel
theorem dX8_isKept_68 : decode cX8_isKept 68 = .ok (.iload_n 1, 1) := by decide +kernel
theorem dX8_isKept_69 : decode cX8_isKept 69 = .ok (.invokevirtual 139, 3) := by decide +kernel
theorem dX8_isKept_72 : decode cX8_isKept 72 = .ok (.ifCond .le 7, 3) := by decide +kernel
theorem dX8_isKept_75 : decode cX8_isKept 75 = .ok (.iconst 1, 1) := by decide +kernel
theorem dX8_isKept_76 : decode cX8_isKept 76 = .ok (.goto 4, 3) := by decide +kernel
theorem dX8_isKept_79 : decode cX8_isKept 79 = .ok (.iconst 0, 1) := by decide +kernel
theorem dX8_isKept_80 : decode cX8_isKept 80 = .ok (.istore 4, 2) := by decide +kernel
theorem dX8_isKept_82 : decode cX8_isKept 82 = .ok (.iinc 5 1, 3) := by decide +kernel
theorem dX8_isKept_85 : decode cX8_isKept 85 = .ok (.goto (-34), 3) := by decide +kernel
theorem dX8_isKept_88 : decode cX8_isKept 88 = .ok (.aload_n 0, 1) := by decide +kernel
theorem dX8_isKept_89 : decode cX8_isKept 89 = .ok (.invokevirtual 259, 3) := by decide +kernel
theorem dX8_isKept_92 : decode cX8_isKept 92 = .ok (.iload 4, 2) := by decide +kernel
theorem dX8_isKept_94 : decode cX8_isKept 94 = .ok (.ireturn, 1) := by decide +kernel
theorem dX8_teachers_0 : decode cX8_teachers 0 = .ok (.iload_n 1, 1) := by decide +kernel
theorem dX8_teachers_1 : decode cX8_teachers 1 = .ok (.invokestatic 113, 3) := by decide +kernel
theorem dX8_teachers_4 : decode cX8_teachers 4 = .ok (.ifCond .eq 25, 3) := by decide +kernel
theorem dX8_teachers_7 : decode cX8_teachers 7 = .ok (.iload_n 2, 1) := by decide +kernel
theorem dX8_teachers_8 : decode cX8_teachers 8 = .ok (.i2l, 1) := by decide +kernel
theorem dX8_teachers_9 : decode cX8_teachers 9 = .ok (.lconst 1, 1) := by decide +kernel
theorem dX8_teachers_10 : decode cX8_teachers 10 = .ok (.ldc2_w 263, 3) := by decide +kernel
theorem dX8_teachers_13 : decode cX8_teachers 13 = .ok (.invokestatic 44, 3) := by decide +kernel
theorem dX8_teachers_16 : decode cX8_teachers 16 = .ok (.ifCond .eq 13, 3) := by decide +kernel
theorem dX8_teachers_19 : decode cX8_teachers 19 = .ok (.iload_n 3, 1) := by decide +kernel
theorem dX8_teachers_20 : decode cX8_teachers 20 = .ok (.i2l, 1) := by decide +kernel
theorem dX8_teachers_21 : decode cX8_teachers 21 = .ok (.lconst 0, 1) := by decide +kernel
theorem dX8_teachers_22 : decode cX8_teachers 22 = .ok (.lconst 1, 1) := by decide +kernel
theorem dX8_teachers_23 : decode cX8_teachers 23 = .ok (.invokestatic 44, 3) := by decide +kernel
theorem dX8_teachers_26 : decode cX8_teachers 26 = .ok (.ifCond .ne 10, 3) := by decide +kernel
theorem dX8_teachers_29 : decode cX8_teachers 29 = .ok (.aload_n 0, 1) := by decide +kernel
theorem dX8_teachers_30 : decode cX8_teachers 30 = .ok (.ldc 43, 2) := by decide +kernel
theorem dX8_teachers_32 : decode cX8_teachers 32 = .ok (.invokevirtual 84, 3) := by decide +kernel
theorem dX8_teachers_35 : decode cX8_teachers 35 = .ok (.ireturn, 1) := by decide +kernel
theorem dX8_teachers_36 : decode cX8_teachers 36 = .ok (.aload_n 0, 1) := by decide +kernel
theorem dX8_teachers_37 : decode cX8_teachers 37 = .ok (.invokevirtual 256, 3) := by decide +kernel
theorem dX8_teachers_40 : decode cX8_teachers 40 = .ok (.iconst (-1), 1) := by decide +kernel
theorem dX8_teachers_41 : decode cX8_teachers 41 = .ok (.istore 4, 2) := by decide +kernel
theorem dX8_teachers_43 : decode cX8_teachers 43 = .ok (.iconst 0, 1) := by decide +kernel
theorem dX8_teachers_44 : decode cX8_teachers 44 = .ok (.istore 5, 2) := by decide +kernel
theorem dX8_teachers_46 : decode cX8_teachers 46 = .ok (.iload 5, 2) := by decide +kernel
theorem dX8_teachers_48 : decode cX8_teachers 48 = .ok (.iconst 1, 1) := by decide +kernel
theorem dX8_teachers_49 : decode cX8_teachers 49 = .ok (.aload_n 0, 1) := by decide +kernel
theorem dX8_teachers_50 : decode cX8_teachers 50 = .ok (.getfield 7, 3) := by decide +kernel
theorem dX8_teachers_53 : decode cX8_teachers 53 = .ok (.iconst 0, 1) := by decide +kernel
theorem dX8_teachers_54 : decode cX8_teachers 54 = .ok (.iaload, 1) := by decide +kernel
theorem dX8_teachers_55 : decode cX8_teachers 55 = .ok (.ishl, 1) := by decide +kernel
theorem dX8_teachers_56 : decode cX8_teachers 56 = .ok (.if_icmp .ge 47, 3) := by decide +kernel
theorem dX8_teachers_59 : decode cX8_teachers 59 = .ok (.iload 4, 2) := by decide +kernel
theorem dX8_teachers_61 : decode cX8_teachers 61 = .ok (.ifCond .lt 16, 3) := by decide +kernel
theorem dX8_teachers_64 : decode cX8_teachers 64 = .ok (.iload 5, 2) := by decide +kernel
theorem dX8_teachers_66 : decode cX8_teachers 66 = .ok (.invokestatic 67, 3) := by decide +kernel
theorem dX8_teachers_69 : decode cX8_teachers 69 = .ok (.iload 4, 2) := by decide +kernel
theorem dX8_teachers_71 : decode cX8_teachers 71 = .ok (.invokestatic 67, 3) := by decide +kernel
theorem dX8_teachers_74 : decode cX8_teachers 74 = .ok (.if_icmp .ge 23, 3) := by decide +kernel
theorem dX8_teachers_77 : decode cX8_teachers 77 = .ok (.aload_n 0, 1) := by decide +kernel
theorem dX8_teachers_78 : decode cX8_teachers 78 = .ok (.iload_n 1, 1) := by decide +kernel
theorem dX8_teachers_79 : decode cX8_teachers 79 = .ok (.iload_n 2, 1) := by decide +kernel
theorem dX8_teachers_80 : decode cX8_teachers 80 = .ok (.iload 5, 2) := by decide +kernel
theorem dX8_teachers_82 : decode cX8_teachers 82 = .ok (.invokevirtual 265, 3) := by decide +kernel
theorem dX8_teachers_85 : decode cX8_teachers 85 = .ok (.ifCond .eq 8, 3) := by decide +kernel
theorem dX8_teachers_88 : decode cX8_teachers 88 = .ok (.iload 5, 2) := by decide +kernel
theorem dX8_teachers_90 : decode cX8_teachers 90 = .ok (.goto 5, 3) := by decide +kernel
theorem dX8_teachers_93 : decode cX8_teachers 93 = .ok (.iload 4, 2) := by decide +kernel
theorem dX8_teachers_95 : decode cX8_teachers 95 = .ok (.istore 4, 2) := by decide +kernel
theorem dX8_teachers_97 : decode cX8_teachers 97 = .ok (.iinc 5 1, 3) := by decide +kernel
theorem dX8_teachers_100 : decode cX8_teachers 100 = .ok (.goto (-54), 3) := by decide +kernel
theorem dX8_teachers_103 : decode cX8_teachers 103 = .ok (.iload 4, 2) := by decide +kernel
theorem dX8_teachers_105 : decode cX8_teachers 105 = .ok (.ifCond .ge 13, 3) := by decide +kernel
theorem dX8_teachers_108 : decode cX8_teachers 108 = .ok (.aload_n 0, 1) := by decide +kernel
theorem dX8_teachers_109 : decode cX8_teachers 109 = .ok (.ldc_w 262, 3) := by decide +kernel
theorem dX8_teachers_112 : decode cX8_teachers 112 = .ok (.invokevirtual 84, 3) := by decide +kernel
theorem dX8_teachers_115 : decode cX8_teachers 115 = .ok (.goto 17, 3) := by decide +kernel
theorem dX8_teachers_118 : decode cX8_teachers 118 = .ok (.iload_n 3, 1) := by decide +kernel
theorem dX8_teachers_119 : decode cX8_teachers 119 = .ok (.ifCond .ne 11, 3) := by decide +kernel
theorem dX8_teachers_122 : decode cX8_teachers 122 = .ok (.iload 4, 2) := by decide +kernel
theorem dX8_teachers_124 : decode cX8_teachers 124 = .ok (.invokestatic 67, 3) := by decide +kernel
theorem dX8_teachers_127 : decode cX8_teachers 127 = .ok (.goto 5, 3) := by decide +kernel
theorem dX8_teachers_130 : decode cX8_teachers 130 = .ok (.iload 4, 2) := by decide +kernel
theorem dX8_teachers_132 : decode cX8_teachers 132 = .ok (.ireturn, 1) := by decide +kernel
theorem dX8_isDoneWithout_0 : decode cX8_isDoneWithout 0 = .ok (.iconst 1, 1) := by decide +kernel
theorem dX8_isDoneWithout_1 : decode cX8_isDoneWithout 1 = .ok (.istore_n 3, 1) := by decide +kernel
theorem dX8_isDoneWithout_2 : decode cX8_isDoneWithout 2 = .ok (.iconst 0, 1) := by decide +kernel
theorem dX8_isDoneWithout_3 : decode cX8_isDoneWithout 3 = .ok (.istore 4, 2) := by decide +kernel
theorem dX8_isDoneWithout_5 : decode cX8_isDoneWithout 5 = .ok (.iload 4, 2) := by decide +kernel
theorem dX8_isDoneWithout_7 : decode cX8_isDoneWithout 7 = .ok (.iconst 4, 1) := by decide +kernel
theorem dX8_isDoneWithout_8 : decode cX8_isDoneWithout 8 = .ok (.if_icmp .ge 80, 3) := by decide +kernel
theorem dX8_isDoneWithout_11 : decode cX8_isDoneWithout 11 = .ok (.aload_n 0, 1) := by decide +kernel
theorem dX8_isDoneWithout_12 : decode cX8_isDoneWithout 12 = .ok (.iload 4, 2) := by decide +kernel
theorem dX8_isDoneWithout_14 : decode cX8_isDoneWithout 14 = .ok (.iconst 0, 1) := by decide +kernel
theorem dX8_isDoneWithout_15 : decode cX8_isDoneWithout 15 = .ok (.invokevirtual 136, 3) := by decide +kernel
theorem dX8_isDoneWithout_18 : decode cX8_isDoneWithout 18 = .ok (.istore 5, 2) := by decide +kernel
theorem dX8_isDoneWithout_20 : decode cX8_isDoneWithout 20 = .ok (.aload_n 0, 1) := by decide +kernel
theorem dX8_isDoneWithout_21 : decode cX8_isDoneWithout 21 = .ok (.iload 5, 2) := by decide +kernel
theorem dX8_isDoneWithout_23 : decode cX8_isDoneWithout 23 = .ok (.invokevirtual 139, 3) := by decide +kernel
theorem dX8_isDoneWithout_26 : decode cX8_isDoneWithout 26 = .ok (.aload_n 0, 1) := by decide +kernel
theorem dX8_isDoneWithout_27 : decode cX8_isDoneWithout 27 = .ok (.iload_n 1, 1) := by decide +kernel
theorem dX8_isDoneWithout_28 : decode cX8_isDoneWithout 28 = .ok (.iload 5, 2) := by decide +kernel
theorem dX8_isDoneWithout_30 : decode cX8_isDoneWithout 30 = .ok (.invokevirtual 118, 3) := by decide +kernel
theorem dX8_isDoneWithout_33 : decode cX8_isDoneWithout 33 = .ok (.ifCond .eq 7, 3) := by decide +kernel
theorem dX8_isDoneWithout_36 : decode cX8_isDoneWithout 36 = .ok (.iconst 1, 1) := by decide +kernel
theorem dX8_isDoneWithout_37 : decode cX8_isDoneWithout 37 = .ok (.goto 4, 3) := by decide +kernel
theorem dX8_isDoneWithout_40 : decode cX8_isDoneWithout 40 = .ok (.iconst 0, 1) := by decide +kernel
theorem dX8_isDoneWithout_41 : decode cX8_isDoneWithout 41 = .ok (.isub, 1) := by decide +kernel
theorem dX8_isDoneWithout_42 : decode cX8_isDoneWithout 42 = .ok (.aload_n 0, 1) := by decide +kernel
theorem dX8_isDoneWithout_43 : decode cX8_isDoneWithout 43 = .ok (.iload_n 2, 1) := by decide +kernel
theorem dX8_isDoneWithout_44 : decode cX8_isDoneWithout 44 = .ok (.iload 5, 2) := by decide +kernel
theorem dX8_isDoneWithout_46 : decode cX8_isDoneWithout 46 = .ok (.invokevirtual 118, 3) := by decide +kernel
theorem dX8_isDoneWithout_49 : decode cX8_isDoneWithout 49 = .ok (.ifCond .eq 7, 3) := by decide +kernel
theorem dX8_isDoneWithout_52 : decode cX8_isDoneWithout 52 = .ok (.iconst 1, 1) := by decide +kernel
theorem dX8_isDoneWithout_53 : decode cX8_isDoneWithout 53 = .ok (.goto 4, 3) := by decide +kernel
theorem dX8_isDoneWithout_56 : decode cX8_isDoneWithout 56 = .ok (.iconst 0, 1) := by decide +kernel
theorem dX8_isDoneWithout_57 : decode cX8_isDoneWithout 57 = .ok (.isub, 1) := by decide +kernel
theorem dX8_isDoneWithout_58 : decode cX8_isDoneWithout 58 = .ok (.istore 6, 2) := by decide +kernel
theorem dX8_isDoneWithout_60 : decode cX8_isDoneWithout 60 = .ok (.iload_n 3, 1) := by decide +kernel
theorem dX8_isDoneWithout_61 : decode cX8_isDoneWithout 61 = .ok (.ifCond .eq 19, 3) := by decide +kernel
theorem dX8_isDoneWithout_64 : decode cX8_isDoneWithout 64 = .ok (.iload 6, 2) := by decide +kernel
theorem dX8_isDoneWithout_66 : decode cX8_isDoneWithout 66 = .ok (.aload_n 0, 1) := by decide +kernel
theorem dX8_isDoneWithout_67 : decode cX8_isDoneWithout 67 = .ok (.iload 4, 2) := by decide +kernel
theorem dX8_isDoneWithout_69 : decode cX8_isDoneWithout 69 = .ok (.iconst 1, 1) := by decide +kernel
theorem dX8_isDoneWithout_70 : decode cX8_isDoneWithout 70 = .ok (.invokevirtual 136, 3) := by decide +kernel
theorem dX8_isDoneWithout_73 : decode cX8_isDoneWithout 73 = .ok (.if_icmp .lt 7, 3) := by decide +kernel
theorem dX8_isDoneWithout_76 : decode cX8_isDoneWithout 76 = .ok (.iconst 1, 1) := by decide +kernel
theorem dX8_isDoneWithout_77 : decode cX8_isDoneWithout 77 = .ok (.goto 4, 3) := by decide +kernel
theorem dX8_isDoneWithout_80 : decode cX8_isDoneWithout 80 = .ok (.iconst 0, 1) := by decide +kernel
theorem dX8_isDoneWithout_81 : decode cX8_isDoneWithout 81 = .ok (.istore_n 3, 1) := by decide +kernel
theorem dX8_isDoneWithout_82 : decode cX8_isDoneWithout 82 = .ok (.iinc 4 1, 3) := by decide +kernel
theorem dX8_isDoneWithout_85 : decode cX8_isDoneWithout 85 = .ok (.goto (-80), 3) := by decide +kernel
theorem dX8_isDoneWithout_88 : decode cX8_isDoneWithout 88 = .ok (.iload_n 3, 1) := by decide +kernel
theorem dX8_isDoneWithout_89 : decode cX8_isDoneWithout 89 = .ok (.ireturn, 1) := by decide +kernel
theorem dX8_storm_0 : decode cX8_storm 0 = .ok (.iload_n 1, 1) := by decide +kernel
theorem dX8_storm_1 : decode cX8_storm 1 = .ok (.i2l, 1) := by decide +kernel
theorem dX8_storm_2 : decode cX8_storm 2 = .ok (.lconst 0, 1) := by decide +kernel
theorem dX8_storm_3 : decode cX8_storm 3 = .ok (.lconst 1, 1) := by decide +kernel
theorem dX8_storm_4 : decode cX8_storm 4 = .ok (.invokestatic 44, 3) := by decide +kernel
theorem dX8_storm_7 : decode cX8_storm 7 = .ok (.ifCond .ne 10, 3) := by decide +kernel
theorem dX8_storm_10 : decode cX8_storm 10 = .ok (.aload_n 0, 1) := by decide +kernel
theorem dX8_storm_11 : decode cX8_storm 11 = .ok (.ldc 43, 2) := by decide +kernel
theorem dX8_storm_13 : decode cX8_storm 13 = .ok (.invokevirtual 84, 3) := by decide +kernel
theorem dX8_storm_16 : decode cX8_storm 16 = .ok (.ireturn, 1) := by decide +kernel
theorem dX8_storm_17 : decode cX8_storm 17 = .ok (.iconst 0, 1) := by decide +kernel
theorem dX8_storm_18 : decode cX8_storm 18 = .ok (.istore_n 2, 1) := by decide +kernel
theorem dX8_storm_19 : decode cX8_storm 19 = .ok (.iconst (-1), 1) := by decide +kernel
theorem dX8_storm_20 : decode cX8_storm 20 = .ok (.istore_n 3, 1) := by decide +kernel
theorem dX8_storm_21 : decode cX8_storm 21 = .ok (.iconst 0, 1) := by decide +kernel
theorem dX8_storm_22 : decode cX8_storm 22 = .ok (.istore 4, 2) := by decide +kernel
theorem dX8_storm_24 : decode cX8_storm 24 = .ok (.iload 4, 2) := by decide +kernel
theorem dX8_storm_26 : decode cX8_storm 26 = .ok (.aload_n 0, 1) := by decide +kernel
theorem dX8_storm_27 : decode cX8_storm 27 = .ok (.getfield 7, 3) := by decide +kernel
theorem dX8_storm_30 : decode cX8_storm 30 = .ok (.iconst 0, 1) := by decide +kernel
theorem dX8_storm_31 : decode cX8_storm 31 = .ok (.iaload, 1) := by decide +kernel
theorem dX8_storm_32 : decode cX8_storm 32 = .ok (.if_icmp .ge 63, 3) := by decide +kernel
theorem dX8_storm_35 : decode cX8_storm 35 = .ok (.iload 4, 2) := by decide +kernel
theorem dX8_storm_37 : decode cX8_storm 37 = .ok (.iconst 1, 1) := by decide +kernel
theorem dX8_storm_38 : decode cX8_storm 38 = .ok (.iadd, 1) := by decide +kernel
theorem dX8_storm_39 : decode cX8_storm 39 = .ok (.istore 5, 2) := by decide +kernel
theorem dX8_storm_41 : decode cX8_storm 41 = .ok (.iload 5, 2) := by decide +kernel
theorem dX8_storm_43 : decode cX8_storm 43 = .ok (.aload_n 0, 1) := by decide +kernel
theorem dX8_storm_44 : decode cX8_storm 44 = .ok (.getfield 7, 3) := by decide +kernel
theorem dX8_storm_47 : decode cX8_storm 47 = .ok (.iconst 0, 1) := by decide +kernel
theorem dX8_storm_48 : decode cX8_storm 48 = .ok (.iaload, 1) := by decide +kernel
theorem dX8_storm_49 : decode cX8_storm 49 = .ok (.if_icmp .ge 40, 3) := by decide +kernel
theorem dX8_storm_52 : decode cX8_storm 52 = .ok (.aload_n 0, 1) := by decide +kernel
theorem dX8_storm_53 : decode cX8_storm 53 = .ok (.iload 4, 2) := by decide +kernel
theorem dX8_storm_55 : decode cX8_storm 55 = .ok (.iload 5, 2) := by decide +kernel
theorem dX8_storm_57 : decode cX8_storm 57 = .ok (.invokevirtual 269, 3) := by decide +kernel
theorem dX8_storm_60 : decode cX8_storm 60 = .ok (.ifCond .eq 23, 3) := by decide +kernel
theorem dX8_storm_63 : decode cX8_storm 63 = .ok (.iinc 2 1, 3) := by decide +kernel
theorem dX8_storm_66 : decode cX8_storm 66 = .ok (.iload_n 3, 1) := by decide +kernel
theorem dX8_storm_67 : decode cX8_storm 67 = .ok (.ifCond .ge 14, 3) := by decide +kernel
theorem dX8_storm_70 : decode cX8_storm 70 = .ok (.bipush 10, 2) := by decide +kernel
theorem dX8_storm_72 : decode cX8_storm 72 = .ok (.iload 4, 2) := by decide +kernel
theorem dX8_storm_74 : decode cX8_storm 74 = .ok (.imul, 1) := by decide +kernel
theorem dX8_storm_75 : decode cX8_storm 75 = .ok (.iload 5, 2) := by decide +kernel
theorem dX8_storm_77 : decode cX8_storm 77 = .ok (.iadd, 1) := by decide +kernel
theorem dX8_storm_78 : decode cX8_storm 78 = .ok (.goto 4, 3) := by decide +kernel
theorem dX8_storm_81 : decode cX8_storm 81 = .ok (.iload_n 3, 1) := by decide +kernel
theorem dX8_storm_82 : decode cX8_storm 82 = .ok (.istore_n 3, 1) := by decide +kernel
theorem dX8_storm_83 : decode cX8_storm 83 = .ok (.iinc 5 1, 3) := by decide +kernel
theorem dX8_storm_86 : decode cX8_storm 86 = .ok (.goto (-45), 3) := by decide +kernel
theorem dX8_storm_89 : decode cX8_storm 89 = .ok (.iinc 4 1, 3) := by decide +kernel
theorem dX8_storm_92 : decode cX8_storm 92 = .ok (.goto (-68), 3) := by decide +kernel
theorem dX8_storm_95 : decode cX8_storm 95 = .ok (.iload_n 1, 1) := by decide +kernel
theorem dX8_storm_96 : decode cX8_storm 96 = .ok (.ifCond .ne 7, 3) := by decide +kernel
theorem dX8_storm_99 : decode cX8_storm 99 = .ok (.iload_n 2, 1) := by decide +kernel
theorem dX8_storm_100 : decode cX8_storm 100 = .ok (.goto 18, 3) := by decide +kernel
theorem dX8_storm_103 : decode cX8_storm 103 = .ok (.iload_n 3, 1) := by decide +kernel
theorem dX8_storm_104 : decode cX8_storm 104 = .ok (.ifCond .ge 13, 3) := by decide +kernel
theorem dX8_storm_107 : decode cX8_storm 107 = .ok (.aload_n 0, 1) := by decide +kernel
theorem dX8_storm_108 : decode cX8_storm 108 = .ok (.ldc_w 262, 3) := by decide +kernel
theorem dX8_storm_111 : decode cX8_storm 111 = .ok (.invokevirtual 84, 3) := by decide +kernel
theorem dX8_storm_114 : decode cX8_storm 114 = .ok (.goto 4, 3) := by decide +kernel
theorem dX8_storm_117 : decode cX8_storm 117 = .ok (.iload_n 3, 1) := by decide +kernel
theorem dX8_storm_118 : decode cX8_storm 118 = .ok (.ireturn, 1) := by decide +kernel
theorem dX8_doneIn_0 : decode cX8_doneIn 0 = .ok (.aload_n 0, 1) := by decide +kernel
theorem dX8_doneIn_1 : decode cX8_doneIn 1 = .ok (.getfield 7, 3) := by decide +kernel
theorem dX8_doneIn_4 : decode cX8_doneIn 4 = .ok (.iconst 4, 1) := by decide +kernel
theorem dX8_doneIn_5 : decode cX8_doneIn 5 = .ok (.iload_n 2, 1) := by decide +kernel
theorem dX8_doneIn_6 : decode cX8_doneIn 6 = .ok (.iastore, 1) := by decide +kernel
theorem dX8_doneIn_7 : decode cX8_doneIn 7 = .ok (.aload_n 0, 1) := by decide +kernel
theorem dX8_doneIn_8 : decode cX8_doneIn 8 = .ok (.iload_n 1, 1) := by decide +kernel
theorem dX8_doneIn_9 : decode cX8_doneIn 9 = .ok (.iconst 0, 1) := by decide +kernel
theorem dX8_doneIn_10 : decode cX8_doneIn 10 = .ok (.invokevirtual 251, 3) := by decide +kernel
theorem dX8_doneIn_13 : decode cX8_doneIn 13 = .ok (.iconst 0, 1) := by decide +kernel
theorem dX8_doneIn_14 : decode cX8_doneIn 14 = .ok (.istore_n 3, 1) := by decide +kernel
theorem dX8_doneIn_15 : decode cX8_doneIn 15 = .ok (.iconst 0, 1) := by decide +kernel
theorem dX8_doneIn_16 : decode cX8_doneIn 16 = .ok (.istore 4, 2) := by decide +kernel
theorem dX8_doneIn_18 : decode cX8_doneIn 18 = .ok (.iload 4, 2) := by decide +kernel
theorem dX8_doneIn_20 : decode cX8_doneIn 20 = .ok (.iconst 4, 1) := by decide +kernel
theorem dX8_doneIn_21 : decode cX8_doneIn 21 = .ok (.if_icmp .ge 19, 3) := by decide +kernel
theorem dX8_doneIn_24 : decode cX8_doneIn 24 = .ok (.iload_n 3, 1) := by decide +kernel
theorem dX8_doneIn_25 : decode cX8_doneIn 25 = .ok (.aload_n 0, 1) := by decide +kernel
theorem dX8_doneIn_26 : decode cX8_doneIn 26 = .ok (.iload 4, 2) := by decide +kernel
theorem dX8_doneIn_28 : decode cX8_doneIn 28 = .ok (.iconst 2, 1) := by decide +kernel
theorem dX8_doneIn_29 : decode cX8_doneIn 29 = .ok (.invokevirtual 136, 3) := by decide +kernel
theorem dX8_doneIn_32 : decode cX8_doneIn 32 = .ok (.iadd, 1) := by decide +kernel
theorem dX8_doneIn_33 : decode cX8_doneIn 33 = .ok (.istore_n 3, 1) := by decide +kernel
theorem dX8_doneIn_34 : decode cX8_doneIn 34 = .ok (.iinc 4 1, 3) := by decide +kernel
theorem dX8_doneIn_37 : decode cX8_doneIn 37 = .ok (.goto (-19), 3) := by decide +kernel
theorem dX8_doneIn_40 : decode cX8_doneIn 40 = .ok (.aload_n 0, 1) := by decide +kernel
theorem dX8_doneIn_41 : decode cX8_doneIn 41 = .ok (.invokevirtual 259, 3) := by decide +kernel
theorem dX8_doneIn_44 : decode cX8_doneIn 44 = .ok (.iload_n 3, 1) := by decide +kernel
theorem dX8_doneIn_45 : decode cX8_doneIn 45 = .ok (.ireturn, 1) := by decide +kernel
theorem dX8_saves_0 : decode cX8_saves 0 = .ok (.iload_n 1, 1) := by decide +kernel
theorem dX8_saves_1 : decode cX8_saves 1 = .ok (.invokestatic 113, 3) := by decide +kernel
theorem dX8_saves_4 : decode cX8_saves 4 = .ok (.ifCond .eq 15, 3) := by decide +kernel
theorem dX8_saves_7 : decode cX8_saves 7 = .ok (.iload_n 2, 1) := by decide +kernel
theorem dX8_saves_8 : decode cX8_saves 8 = .ok (.i2l, 1) := by decide +kernel
theorem dX8_saves_9 : decode cX8_saves 9 = .ok (.lconst 0, 1) := by decide +kernel
theorem dX8_saves_10 : decode cX8_saves 10 = .ok (.ldc2_w 242, 3) := by decide +kernel
theorem dX8_saves_13 : decode cX8_saves 13 = .ok (.invokestatic 44, 3) := by decide +kernel
theorem dX8_saves_16 : decode cX8_saves 16 = .ok (.ifCond .ne 10, 3) := by decide +kernel
theorem dX8_saves_19 : decode cX8_saves 19 = .ok (.aload_n 0, 1) := by decide +kernel
theorem dX8_saves_20 : decode cX8_saves 20 = .ok (.ldc 43, 2) := by decide +kernel
theorem dX8_saves_22 : decode cX8_saves 22 = .ok (.invokevirtual 84, 3) := by decide +kernel
theorem dX8_saves_25 : decode cX8_saves 25 = .ok (.ireturn, 1) := by decide +kernel
theorem dX8_saves_26 : decode cX8_saves 26 = .ok (.aload_n 0, 1) := by decide +kernel
theorem dX8_saves_27 : decode cX8_saves 27 = .ok (.invokevirtual 256, 3) := by decide +kernel
theorem dX8_saves_30 : decode cX8_saves 30 = .ok (.aload_n 0, 1) := by decide +kernel
theorem dX8_saves_31 : decode cX8_saves 31 = .ok (.iload_n 2, 1) := by decide +kernel
theorem dX8_saves_32 : decode cX8_saves 32 = .ok (.aload_n 0, 1) := by decide +kernel
theorem dX8_saves_33 : decode cX8_saves 33 = .ok (.getfield 7, 3) := by decide +kernel
theorem dX8_saves_36 : decode cX8_saves 36 = .ok (.iconst 4, 1) := by decide +kernel
theorem dX8_saves_37 : decode cX8_saves 37 = .ok (.iaload, 1) := by decide +kernel
theorem dX8_saves_38 : decode cX8_saves 38 = .ok (.iconst 1, 1) := by decide +kernel
theorem dX8_saves_39 : decode cX8_saves 39 = .ok (.iload_n 1, 1) := by decide +kernel
theorem dX8_saves_40 : decode cX8_saves 40 = .ok (.ishl, 1) := by decide +kernel
theorem dX8_saves_41 : decode cX8_saves 41 = .ok (.ior, 1) := by decide +kernel
theorem dX8_saves_42 : decode cX8_saves 42 = .ok (.invokevirtual 272, 3) := by decide +kernel
theorem dX8_saves_45 : decode cX8_saves 45 = .ok (.istore_n 3, 1) := by decide +kernel
theorem dX8_saves_46 : decode cX8_saves 46 = .ok (.iload_n 3, 1) := by decide +kernel
theorem dX8_saves_47 : decode cX8_saves 47 = .ok (.aload_n 0, 1) := by decide +kernel
theorem dX8_saves_48 : decode cX8_saves 48 = .ok (.iload_n 2, 1) := by decide +kernel
theorem dX8_saves_49 : decode cX8_saves 49 = .ok (.aload_n 0, 1) := by decide +kernel
theorem dX8_saves_50 : decode cX8_saves 50 = .ok (.getfield 7, 3) := by decide +kernel
theorem dX8_saves_53 : decode cX8_saves 53 = .ok (.iconst 4, 1) := by decide +kernel
theorem dX8_saves_54 : decode cX8_saves 54 = .ok (.iaload, 1) := by decide +kernel
theorem dX8_saves_55 : decode cX8_saves 55 = .ok (.iconst 1, 1) := by decide +kernel
theorem dX8_saves_56 : decode cX8_saves 56 = .ok (.iload_n 1, 1) := by decide +kernel
theorem dX8_saves_57 : decode cX8_saves 57 = .ok (.ishl, 1) := by decide +kernel
theorem dX8_saves_58 : decode cX8_saves 58 = .ok (.iconst (-1), 1) := by decide +kernel
theorem dX8_saves_59 : decode cX8_saves 59 = .ok (.ixor, 1) := by decide +kernel
theorem dX8_saves_60 : decode cX8_saves 60 = .ok (.iand, 1) := by decide +kernel
theorem dX8_saves_61 : decode cX8_saves 61 = .ok (.invokevirtual 272, 3) := by decide +kernel
theorem dX8_saves_64 : decode cX8_saves 64 = .ok (.isub, 1) := by decide +kernel
theorem dX8_saves_65 : decode cX8_saves 65 = .ok (.ireturn, 1) := by decide +kernel
theorem dX8_isVersion_0 : decode cX8_isVersion 0 = .ok (.iload_n 0, 1) := by decide +kernel
theorem dX8_isVersion_1 : decode cX8_isVersion 1 = .ok (.i2l, 1) := by decide +kernel
theorem dX8_isVersion_2 : decode cX8_isVersion 2 = .ok (.lconst 0, 1) := by decide +kernel
theorem dX8_isVersion_3 : decode cX8_isVersion 3 = .ok (.ldc2_w 116, 3) := by decide +kernel
theorem dX8_isVersion_6 : decode cX8_isVersion 6 = .ok (.invokestatic 44, 3) := by decide +kernel
theorem dX8_isVersion_9 : decode cX8_isVersion 9 = .ok (.ireturn, 1) := by decide +kernel
theorem dX8_changes_0 : decode cX8_changes 0 = .ok (.iload_n 1, 1) := by decide +kernel
theorem dX8_changes_1 : decode cX8_changes 1 = .ok (.invokestatic 113, 3) := by decide +kernel
theorem dX8_changes_4 : decode cX8_changes 4 = .ok (.ifCond .eq 10, 3) := by decide +kernel
theorem dX8_changes_7 : decode cX8_changes 7 = .ok (.iload_n 2, 1) := by decide +kernel
theorem dX8_changes_8 : decode cX8_changes 8 = .ok (.invokestatic 275, 3) := by decide +kernel
theorem dX8_changes_11 : decode cX8_changes 11 = .ok (.ifCond .ne 10, 3) := by decide +kernel
theorem dX8_changes_14 : decode cX8_changes 14 = .ok (.aload_n 0, 1) := by decide +kernel
theorem dX8_changes_15 : decode cX8_changes 15 = .ok (.ldc 43, 2) := by decide +kernel
theorem dX8_changes_17 : decode cX8_changes 17 = .ok (.invokevirtual 84, 3) := by decide +kernel
theorem dX8_changes_20 : decode cX8_changes 20 = .ok (.ireturn, 1) := by decide +kernel
theorem dX8_changes_21 : decode cX8_changes 21 = .ok (.iload_n 2, 1) := by decide +kernel
theorem dX8_changes_22 : decode cX8_changes 22 = .ok (.istore_n 3, 1) := by decide +kernel
theorem dX8_changes_23 : decode cX8_changes 23 = .ok (.iconst 0, 1) := by decide +kernel
theorem dX8_changes_24 : decode cX8_changes 24 = .ok (.istore 4, 2) := by decide +kernel
theorem dX8_changes_26 : decode cX8_changes 26 = .ok (.iconst 0, 1) := by decide +kernel
theorem dX8_changes_27 : decode cX8_changes 27 = .ok (.istore 5, 2) := by decide +kernel
theorem dX8_changes_29 : decode cX8_changes 29 = .ok (.iload 5, 2) := by decide +kernel
theorem dX8_changes_31 : decode cX8_changes 31 = .ok (.aload_n 0, 1) := by decide +kernel
theorem dX8_changes_32 : decode cX8_changes 32 = .ok (.getfield 7, 3) := by decide +kernel
theorem dX8_changes_35 : decode cX8_changes 35 = .ok (.iconst 0, 1) := by decide +kernel
theorem dX8_changes_36 : decode cX8_changes 36 = .ok (.iaload, 1) := by decide +kernel
theorem dX8_changes_37 : decode cX8_changes 37 = .ok (.if_icmp .ge 52, 3) := by decide +kernel
theorem dX8_changes_40 : decode cX8_changes 40 = .ok (.aload_n 0, 1) := by decide +kernel
theorem dX8_changes_41 : decode cX8_changes 41 = .ok (.iload 5, 2) := by decide +kernel
theorem dX8_changes_43 : decode cX8_changes 43 = .ok (.iload_n 1, 1) := by decide +kernel
theorem dX8_changes_44 : decode cX8_changes 44 = .ok (.invokevirtual 118, 3) := by decide +kernel
theorem dX8_changes_47 : decode cX8_changes 47 = .ok (.ifCond .eq 36, 3) := by decide +kernel
theorem dX8_changes_50 : decode cX8_changes 50 = .ok (.iload 4, 2) := by decide +kernel
theorem dX8_changes_52 : decode cX8_changes 52 = .ok (.aload_n 0, 1) := by decide +kernel
theorem dX8_changes_53 : decode cX8_changes 53 = .ok (.iload 5, 2) := by decide +kernel
theorem dX8_changes_55 : decode cX8_changes 55 = .ok (.iconst 5, 1) := by decide +kernel
theorem dX8_changes_56 : decode cX8_changes 56 = .ok (.iload_n 1, 1) := by decide +kernel
theorem dX8_changes_57 : decode cX8_changes 57 = .ok (.iadd, 1) := by decide +kernel
theorem dX8_changes_58 : decode cX8_changes 58 = .ok (.invokevirtual 60, 3) := by decide +kernel
theorem dX8_changes_61 : decode cX8_changes 61 = .ok (.iload_n 3, 1) := by decide +kernel
theorem dX8_changes_62 : decode cX8_changes 62 = .ok (.if_icmp .ne 7, 3) := by decide +kernel
theorem dX8_changes_65 : decode cX8_changes 65 = .ok (.iconst 0, 1) := by decide +kernel
theorem dX8_changes_66 : decode cX8_changes 66 = .ok (.goto 4, 3) := by decide +kernel
theorem dX8_changes_69 : decode cX8_changes 69 = .ok (.iconst 1, 1) := by decide +kernel
theorem dX8_changes_70 : decode cX8_changes 70 = .ok (.iadd, 1) := by decide +kernel
theorem dX8_changes_71 : decode cX8_changes 71 = .ok (.istore 4, 2) := by decide +kernel
theorem dX8_changes_73 : decode cX8_changes 73 = .ok (.aload_n 0, 1) := by decide +kernel
theorem dX8_changes_74 : decode cX8_changes 74 = .ok (.iload 5, 2) := by decide +kernel
theorem dX8_changes_76 : decode cX8_changes 76 = .ok (.iconst 5, 1) := by decide +kernel
theorem dX8_changes_77 : decode cX8_changes 77 = .ok (.iload_n 1, 1) := by decide +kernel
theorem dX8_changes_78 : decode cX8_changes 78 = .ok (.iadd, 1) := by decide +kernel
theorem dX8_changes_79 : decode cX8_changes 79 = .ok (.invokevirtual 60, 3) := by decide +kernel
theorem dX8_changes_82 : decode cX8_changes 82 = .ok (.istore_n 3, 1) := by decide +kernel
theorem dX8_changes_83 : decode cX8_changes 83 = .ok (.iinc 5 1, 3) := by decide +kernel
theorem dX8_changes_86 : decode cX8_changes 86 = .ok (.goto (-57), 3) := by decide +kernel
theorem dX8_changes_89 : decode cX8_changes 89 = .ok (.iload 4, 2) := by decide +kernel
theorem dX8_changes_91 : decode cX8_changes 91 = .ok (.ireturn, 1) := by decide +kernel
theorem dX8_began_0 : decode cX8_began 0 = .ok (.iload_n 1, 1) := by decide +kernel
theorem dX8_began_1 : decode cX8_began 1 = .ok (.invokestatic 113, 3) := by decide +kernel
theorem dX8_began_4 : decode cX8_began 4 = .ok (.ifCond .eq 10, 3) := by decide +kernel
theorem dX8_began_7 : decode cX8_began 7 = .ok (.iload_n 2, 1) := by decide +kernel
theorem dX8_began_8 : decode cX8_began 8 = .ok (.invokestatic 275, 3) := by decide +kernel
theorem dX8_began_11 : decode cX8_began 11 = .ok (.ifCond .ne 10, 3) := by decide +kernel
theorem dX8_began_14 : decode cX8_began 14 = .ok (.aload_n 0, 1) := by decide +kernel
theorem dX8_began_15 : decode cX8_began 15 = .ok (.ldc 43, 2) := by decide +kernel
theorem dX8_began_17 : decode cX8_began 17 = .ok (.invokevirtual 84, 3) := by decide +kernel
theorem dX8_began_20 : decode cX8_began 20 = .ok (.ireturn, 1) := by decide +kernel
theorem dX8_began_21 : decode cX8_began 21 = .ok (.iconst 0, 1) := by decide +kernel
theorem dX8_began_22 : decode cX8_began 22 = .ok (.istore_n 3, 1) := by decide +kernel
theorem dX8_began_23 : decode cX8_began 23 = .ok (.iconst 0, 1) := by decide +kernel
theorem dX8_began_24 : decode cX8_began 24 = .ok (.istore 4, 2) := by decide +kernel
theorem dX8_began_26 : decode cX8_began 26 = .ok (.iconst 0, 1) := by decide +kernel
theorem dX8_began_27 : decode cX8_began 27 = .ok (.istore 5, 2) := by decide +kernel
theorem dX8_began_29 : decode cX8_began 29 = .ok (.iload 5, 2) := by decide +kernel
theorem dX8_began_31 : decode cX8_began 31 = .ok (.aload_n 0, 1) := by decide +kernel
theorem dX8_began_32 : decode cX8_began 32 = .ok (.getfield 7, 3) := by decide +kernel
theorem dX8_began_35 : decode cX8_began 35 = .ok (.iconst 0, 1) := by decide +kernel
theorem dX8_began_36 : decode cX8_began 36 = .ok (.iaload, 1) := by decide +kernel
theorem dX8_began_37 : decode cX8_began 37 = .ok (.if_icmp .ge 89, 3) := by decide +kernel
theorem dX8_began_40 : decode cX8_began 40 = .ok (.aload_n 0, 1) := by decide +kernel
theorem dX8_began_41 : decode cX8_began 41 = .ok (.iload 5, 2) := by decide +kernel
theorem dX8_began_43 : decode cX8_began 43 = .ok (.iload_n 1, 1) := by decide +kernel
theorem dX8_began_44 : decode cX8_began 44 = .ok (.invokevirtual 118, 3) := by decide +kernel
theorem dX8_began_47 : decode cX8_began 47 = .ok (.ifCond .eq 20, 3) := by decide +kernel
theorem dX8_began_50 : decode cX8_began 50 = .ok (.aload_n 0, 1) := by decide +kernel
theorem dX8_began_51 : decode cX8_began 51 = .ok (.iload 5, 2) := by decide +kernel
theorem dX8_began_53 : decode cX8_began 53 = .ok (.iconst 5, 1) := by decide +kernel
theorem dX8_began_54 : decode cX8_began 54 = .ok (.iload_n 1, 1) := by decide +kernel
theorem dX8_began_55 : decode cX8_began 55 = .ok (.iadd, 1) := by decide +kernel
theorem dX8_began_56 : decode cX8_began 56 = .ok (.invokevirtual 60, 3) := by decide +kernel
theorem dX8_began_59 : decode cX8_began 59 = .ok (.iload_n 2, 1) := by decide +kernel
theorem dX8_began_60 : decode cX8_began 60 = .ok (.if_icmp .ne 7, 3) := by decide +kernel
theorem dX8_began_63 : decode cX8_began 63 = .ok (.iconst 1, 1) := by decide +kernel
theorem dX8_began_64 : decode cX8_began 64 = .ok (.goto 4, 3) := by decide +kernel
theorem dX8_began_67 : decode cX8_began 67 = .ok (.iconst 0, 1) := by decide +kernel
theorem dX8_began_68 : decode cX8_began 68 = .ok (.istore 6, 2) := by decide +kernel
theorem dX8_began_70 : decode cX8_began 70 = .ok (.iload 6, 2) := by decide +kernel
theorem dX8_began_72 : decode cX8_began 72 = .ok (.ifCond .eq 29, 3) := by decide +kernel
theorem dX8_began_75 : decode cX8_began 75 = .ok (.iload_n 3, 1) := by decide +kernel
theorem dX8_began_76 : decode cX8_began 76 = .ok (.ifCond .eq 15, 3) := by decide +kernel
theorem dX8_began_79 : decode cX8_began 79 = .ok (.aload_n 0, 1) := by decide +kernel
theorem dX8_began_80 : decode cX8_began 80 = .ok (.iload 5, 2) := by decide +kernel
theorem dX8_began_82 : decode cX8_began 82 = .ok (.iconst 2, 1) := by decide +kernel
theorem dX8_began_83 : decode cX8_began 83 = .ok (.invokevirtual 60, 3) := by decide +kernel
theorem dX8_began_86 : decode cX8_began 86 = .ok (.iload 4, 2) := by decide +kernel
theorem dX8_began_88 : decode cX8_began 88 = .ok (.if_icmp .ge 13, 3) := by decide +kernel
theorem dX8_began_91 : decode cX8_began 91 = .ok (.aload_n 0, 1) := by decide +kernel
theorem dX8_began_92 : decode cX8_began 92 = .ok (.iload 5, 2) := by decide +kernel
theorem dX8_began_94 : decode cX8_began 94 = .ok (.iconst 2, 1) := by decide +kernel
theorem dX8_began_95 : decode cX8_began 95 = .ok (.invokevirtual 60, 3) := by decide +kernel
theorem dX8_began_98 : decode cX8_began 98 = .ok (.goto 5, 3) := by decide +kernel
theorem dX8_began_101 : decode cX8_began 101 = .ok (.iload 4, 2) := by decide +kernel
theorem dX8_began_103 : decode cX8_began 103 = .ok (.istore 4, 2) := by decide +kernel
theorem dX8_began_105 : decode cX8_began 105 = .ok (.iload_n 3, 1) := by decide +kernel
theorem dX8_began_106 : decode cX8_began 106 = .ok (.ifCond .ne 8, 3) := by decide +kernel
theorem dX8_began_109 : decode cX8_began 109 = .ok (.iload 6, 2) := by decide +kernel
theorem dX8_began_111 : decode cX8_began 111 = .ok (.ifCond .eq 7, 3) := by decide +kernel
theorem dX8_began_114 : decode cX8_began 114 = .ok (.iconst 1, 1) := by decide +kernel
theorem dX8_began_115 : decode cX8_began 115 = .ok (.goto 4, 3) := by decide +kernel
theorem dX8_began_118 : decode cX8_began 118 = .ok (.iconst 0, 1) := by decide +kernel
theorem dX8_began_119 : decode cX8_began 119 = .ok (.istore_n 3, 1) := by decide +kernel
theorem dX8_began_120 : decode cX8_began 120 = .ok (.iinc 5 1, 3) := by decide +kernel
theorem dX8_began_123 : decode cX8_began 123 = .ok (.goto (-94), 3) := by decide +kernel
theorem dX8_began_126 : decode cX8_began 126 = .ok (.iload_n 3, 1) := by decide +kernel
theorem dX8_began_127 : decode cX8_began 127 = .ok (.ifCond .eq 8, 3) := by decide +kernel
theorem dX8_began_130 : decode cX8_began 130 = .ok (.iload 4, 2) := by decide +kernel
theorem dX8_began_132 : decode cX8_began 132 = .ok (.goto 10, 3) := by decide +kernel
theorem dX8_began_135 : decode cX8_began 135 = .ok (.aload_n 0, 1) := by decide +kernel
theorem dX8_began_136 : decode cX8_began 136 = .ok (.ldc_w 262, 3) := by decide +kernel
theorem dX8_began_139 : decode cX8_began 139 = .ok (.invokevirtual 84, 3) := by decide +kernel
theorem dX8_began_142 : decode cX8_began 142 = .ok (.ireturn, 1) := by decide +kernel
theorem dX8_handed_0 : decode cX8_handed 0 = .ok (.aload_n 0, 1) := by decide +kernel
theorem dX8_handed_1 : decode cX8_handed 1 = .ok (.iload_n 1, 1) := by decide +kernel
theorem dX8_handed_2 : decode cX8_handed 2 = .ok (.invokevirtual 98, 3) := by decide +kernel
theorem dX8_handed_5 : decode cX8_handed 5 = .ok (.ifCond .eq 10, 3) := by decide +kernel
theorem dX8_handed_8 : decode cX8_handed 8 = .ok (.iload_n 2, 1) := by decide +kernel
theorem dX8_handed_9 : decode cX8_handed 9 = .ok (.invokestatic 113, 3) := by decide +kernel
theorem dX8_handed_12 : decode cX8_handed 12 = .ok (.ifCond .ne 10, 3) := by decide +kernel
theorem dX8_handed_15 : decode cX8_handed 15 = .ok (.aload_n 0, 1) := by decide +kernel
theorem dX8_handed_16 : decode cX8_handed 16 = .ok (.ldc 43, 2) := by decide +kernel
theorem dX8_handed_18 : decode cX8_handed 18 = .ok (.invokevirtual 84, 3) := by decide +kernel
theorem dX8_handed_21 : decode cX8_handed 21 = .ok (.ireturn, 1) := by decide +kernel
theorem dX8_handed_22 : decode cX8_handed 22 = .ok (.aload_n 0, 1) := by decide +kernel
theorem dX8_handed_23 : decode cX8_handed 23 = .ok (.iload_n 1, 1) := by decide +kernel
theorem dX8_handed_24 : decode cX8_handed 24 = .ok (.iload_n 2, 1) := by decide +kernel
theorem dX8_handed_25 : decode cX8_handed 25 = .ok (.invokevirtual 118, 3) := by decide +kernel
theorem dX8_handed_28 : decode cX8_handed 28 = .ok (.ifCond .ne 10, 3) := by decide +kernel
theorem dX8_handed_31 : decode cX8_handed 31 = .ok (.aload_n 0, 1) := by decide +kernel
theorem dX8_handed_32 : decode cX8_handed 32 = .ok (.ldc 247, 2) := by decide +kernel
theorem dX8_handed_34 : decode cX8_handed 34 = .ok (.invokevirtual 84, 3) := by decide +kernel
theorem dX8_handed_37 : decode cX8_handed 37 = .ok (.ireturn, 1) := by decide +kernel
theorem dX8_handed_38 : decode cX8_handed 38 = .ok (.iconst 0, 1) := by decide +kernel
theorem dX8_handed_39 : decode cX8_handed 39 = .ok (.istore_n 3, 1) := by decide +kernel
theorem dX8_handed_40 : decode cX8_handed 40 = .ok (.iload_n 3, 1) := by decide +kernel
theorem dX8_handed_41 : decode cX8_handed 41 = .ok (.iconst 1, 1) := by decide +kernel
theorem dX8_handed_42 : decode cX8_handed 42 = .ok (.iadd, 1) := by decide +kernel
theorem dX8_handed_43 : decode cX8_handed 43 = .ok (.aload_n 0, 1) := by decide +kernel
theorem dX8_handed_44 : decode cX8_handed 44 = .ok (.getfield 7, 3) := by decide +kernel
theorem dX8_handed_47 : decode cX8_handed 47 = .ok (.iconst 0, 1) := by decide +kernel
theorem dX8_handed_48 : decode cX8_handed 48 = .ok (.iaload, 1) := by decide +kernel
theorem dX8_handed_49 : decode cX8_handed 49 = .ok (.if_icmp .ge 26, 3) := by decide +kernel
theorem dX8_handed_52 : decode cX8_handed 52 = .ok (.aload_n 0, 1) := by decide +kernel
theorem dX8_handed_53 : decode cX8_handed 53 = .ok (.iload_n 1, 1) := by decide +kernel
theorem dX8_handed_54 : decode cX8_handed 54 = .ok (.iload_n 3, 1) := by decide +kernel
theorem dX8_handed_55 : decode cX8_handed 55 = .ok (.iadd, 1) := by decide +kernel
theorem dX8_handed_56 : decode cX8_handed 56 = .ok (.aload_n 0, 1) := by decide +kernel
theorem dX8_handed_57 : decode cX8_handed 57 = .ok (.getfield 7, 3) := by decide +kernel
theorem dX8_handed_60 : decode cX8_handed 60 = .ok (.iconst 0, 1) := by decide +kernel
theorem dX8_handed_61 : decode cX8_handed 61 = .ok (.iaload, 1) := by decide +kernel
theorem dX8_handed_62 : decode cX8_handed 62 = .ok (.irem, 1) := by decide +kernel
theorem dX8_handed_63 : decode cX8_handed 63 = .ok (.invokevirtual 218, 3) := by decide +kernel
theorem dX8_handed_66 : decode cX8_handed 66 = .ok (.ifCond .ne 9, 3) := by decide +kernel
theorem dX8_handed_69 : decode cX8_handed 69 = .ok (.iinc 3 1, 3) := by decide +kernel
theorem dX8_handed_72 : decode cX8_handed 72 = .ok (.goto (-32), 3) := by decide +kernel
theorem dX8_handed_75 : decode cX8_handed 75 = .ok (.iload_n 3, 1) := by decide +kernel
theorem dX8_handed_76 : decode cX8_handed 76 = .ok (.ireturn, 1) := by decide +kernel
theorem dX8_wages_0 : decode cX8_wages 0 = .ok (.iload_n 1, 1) := by decide +kernel
theorem dX8_wages_1 : decode cX8_wages 1 = .ok (.invokestatic 244, 3) := by decide +kernel
theorem dX8_wages_4 : decode cX8_wages 4 = .ok (.ifCond .ne 10, 3) := by decide +kernel
theorem dX8_wages_7 : decode cX8_wages 7 = .ok (.aload_n 0, 1) := by decide +kernel
theorem dX8_wages_8 : decode cX8_wages 8 = .ok (.ldc 43, 2) := by decide +kernel
theorem dX8_wages_10 : decode cX8_wages 10 = .ok (.invokevirtual 84, 3) := by decide +kernel
theorem dX8_wages_13 : decode cX8_wages 13 = .ok (.ireturn, 1) := by decide +kernel
theorem dX8_wages_14 : decode cX8_wages 14 = .ok (.aload_n 0, 1) := by decide +kernel
theorem dX8_wages_15 : decode cX8_wages 15 = .ok (.invokevirtual 256, 3) := by decide +kernel
theorem dX8_wages_18 : decode cX8_wages 18 = .ok (.iconst 0, 1) := by decide +kernel
theorem dX8_wages_19 : decode cX8_wages 19 = .ok (.istore_n 2, 1) := by decide +kernel
theorem dX8_wages_20 : decode cX8_wages 20 = .ok (.iconst 0, 1) := by decide +kernel
theorem dX8_wages_21 : decode cX8_wages 21 = .ok (.istore_n 3, 1) := by decide +kernel
theorem dX8_wages_22 : decode cX8_wages 22 = .ok (.iload_n 3, 1) := by decide +kernel
theorem dX8_wages_23 : decode cX8_wages 23 = .ok (.iload_n 1, 1) := by decide +kernel
theorem dX8_wages_24 : decode cX8_wages 24 = .ok (.if_icmp .ge 43, 3) := by decide +kernel
theorem dX8_wages_27 : decode cX8_wages 27 = .ok (.aload_n 0, 1) := by decide +kernel
theorem dX8_wages_28 : decode cX8_wages 28 = .ok (.iconst 0, 1) := by decide +kernel
theorem dX8_wages_29 : decode cX8_wages 29 = .ok (.invokevirtual 238, 3) := by decide +kernel
theorem dX8_wages_32 : decode cX8_wages 32 = .ok (.iconst 0, 1) := by decide +kernel
theorem dX8_wages_33 : decode cX8_wages 33 = .ok (.istore 4, 2) := by decide +kernel
theorem dX8_wages_35 : decode cX8_wages 35 = .ok (.iload 4, 2) := by decide +kernel
theorem dX8_wages_37 : decode cX8_wages 37 = .ok (.aload_n 0, 1) := by decide +kernel
theorem dX8_wages_38 : decode cX8_wages 38 = .ok (.getfield 7, 3) := by decide +kernel
theorem dX8_wages_41 : decode cX8_wages 41 = .ok (.iconst 0, 1) := by decide +kernel
theorem dX8_wages_42 : decode cX8_wages 42 = .ok (.iaload, 1) := by decide +kernel
theorem dX8_wages_43 : decode cX8_wages 43 = .ok (.if_icmp .ge 18, 3) := by decide +kernel
theorem dX8_wages_46 : decode cX8_wages 46 = .ok (.iload_n 2, 1) := by decide +kernel
theorem dX8_wages_47 : decode cX8_wages 47 = .ok (.aload_n 0, 1) := by decide +kernel
theorem dX8_wages_48 : decode cX8_wages 48 = .ok (.iload 4, 2) := by decide +kernel
theorem dX8_wages_50 : decode cX8_wages 50 = .ok (.invokevirtual 92, 3) := by decide +kernel
theorem dX8_wages_53 : decode cX8_wages 53 = .ok (.iadd, 1) := by decide +kernel
theorem dX8_wages_54 : decode cX8_wages 54 = .ok (.istore_n 2, 1) := by decide +kernel
theorem dX8_wages_55 : decode cX8_wages 55 = .ok (.iinc 4 1, 3) := by decide +kernel
theorem dX8_wages_58 : decode cX8_wages 58 = .ok (.goto (-23), 3) := by decide +kernel
theorem dX8_wages_61 : decode cX8_wages 61 = .ok (.iinc 3 1, 3) := by decide +kernel
theorem dX8_wages_64 : decode cX8_wages 64 = .ok (.goto (-42), 3) := by decide +kernel
theorem dX8_wages_67 : decode cX8_wages 67 = .ok (.aload_n 0, 1) := by decide +kernel
theorem dX8_wages_68 : decode cX8_wages 68 = .ok (.invokevirtual 259, 3) := by decide +kernel
theorem dX8_wages_71 : decode cX8_wages 71 = .ok (.iload_n 2, 1) := by decide +kernel
theorem dX8_wages_72 : decode cX8_wages 72 = .ok (.ireturn, 1) := by decide +kernel
theorem dX8_runs_0 : decode cX8_runs 0 = .ok (.aload_n 0, 1) := by decide +kernel
theorem dX8_runs_1 : decode cX8_runs 1 = .ok (.getfield 278, 3) := by decide +kernel
theorem dX8_runs_4 : decode cX8_runs 4 = .ok (.bipush 30, 2) := by decide +kernel
theorem dX8_runs_6 : decode cX8_runs 6 = .ok (.if_icmp .ge 23, 3) := by decide +kernel
theorem dX8_runs_9 : decode cX8_runs 9 = .ok (.aload_n 0, 1) := by decide +kernel
theorem dX8_runs_10 : decode cX8_runs 10 = .ok (.getfield 28, 3) := by decide +kernel
theorem dX8_runs_13 : decode cX8_runs 13 = .ok (.aload_n 0, 1) := by decide +kernel
theorem dX8_runs_14 : decode cX8_runs 14 = .ok (.getfield 278, 3) := by decide +kernel
theorem dX8_runs_17 : decode cX8_runs 17 = .ok (.iload_n 1, 1) := by decide +kernel
theorem dX8_runs_18 : decode cX8_runs 18 = .ok (.iastore, 1) := by decide +kernel
theorem dX8_runs_19 : decode cX8_runs 19 = .ok (.aload_n 0, 1) := by decide +kernel
theorem dX8_runs_20 : decode cX8_runs 20 = .ok (.dup, 1) := by decide +kernel
theorem dX8_runs_21 : decode cX8_runs 21 = .ok (.getfield 278, 3) := by decide +kernel
theorem dX8_runs_24 : decode cX8_runs 24 = .ok (.iconst 1, 1) := by decide +kernel
theorem dX8_runs_25 : decode cX8_runs 25 = .ok (.iadd, 1) := by decide +kernel
theorem dX8_runs_26 : decode cX8_runs 26 = .ok (.putfield 278, 3) := by decide +kernel
theorem dX8_runs_29 : decode cX8_runs 29 = .ok (.return_, 1) := by decide +kernel
theorem dX8_hearing_0 : decode cX8_hearing 0 = .ok (.aload_n 0, 1) := by decide +kernel
theorem dX8_hearing_1 : decode cX8_hearing 1 = .ok (.aload_n 0, 1) := by decide +kernel
theorem dX8_hearing_2 : decode cX8_hearing 2 = .ok (.getfield 281, 3) := by decide +kernel
theorem dX8_hearing_5 : decode cX8_hearing 5 = .ok (.iconst 0, 1) := by decide +kernel
theorem dX8_hearing_6 : decode cX8_hearing 6 = .ok (.invokevirtual 60, 3) := by decide +kernel
theorem dX8_hearing_9 : decode cX8_hearing 9 = .ok (.istore_n 2, 1) := by decide +kernel
theorem dX8_hearing_10 : decode cX8_hearing 10 = .ok (.iload_n 2, 1) := by decide +kernel
theorem dX8_hearing_11 : decode cX8_hearing 11 = .ok (.bipush 6, 2) := by decide +kernel
theorem dX8_hearing_13 : decode cX8_hearing 13 = .ok (.if_icmp .ne 11, 3) := by decide +kernel
theorem dX8_hearing_16 : decode cX8_hearing 16 = .ok (.aload_n 0, 1) := by decide +kernel
theorem dX8_hearing_17 : decode cX8_hearing 17 = .ok (.bipush 70, 2) := by decide +kernel
theorem dX8_hearing_19 : decode cX8_hearing 19 = .ok (.invokevirtual 284, 3) := by decide +kernel
theorem dX8_hearing_22 : decode cX8_hearing 22 = .ok (.iconst 5, 1) := by decide +kernel
theorem dX8_hearing_23 : decode cX8_hearing 23 = .ok (.ireturn, 1) := by decide +kernel
theorem dX8_hearing_24 : decode cX8_hearing 24 = .ok (.iload_n 2, 1) := by decide +kernel
theorem dX8_hearing_25 : decode cX8_hearing 25 = .ok (.iconst 4, 1) := by decide +kernel
theorem dX8_hearing_26 : decode cX8_hearing 26 = .ok (.if_icmp .ne 9, 3) := by decide +kernel
theorem dX8_hearing_29 : decode cX8_hearing 29 = .ok (.aload_n 0, 1) := by decide +kernel
theorem dX8_hearing_30 : decode cX8_hearing 30 = .ok (.bipush 50, 2) := by decide +kernel
theorem dX8_hearing_32 : decode cX8_hearing 32 = .ok (.invokevirtual 284, 3) := by decide +kernel
theorem dX8_hearing_35 : decode cX8_hearing 35 = .ok (.iload_n 2, 1) := by decide +kernel
theorem dX8_hearing_36 : decode cX8_hearing 36 = .ok (.iconst 1, 1) := by decide +kernel
theorem dX8_hearing_37 : decode cX8_hearing 37 = .ok (.if_icmp .eq 8, 3) := by decide +kernel
theorem dX8_hearing_40 : decode cX8_hearing 40 = .ok (.iload_n 2, 1) := by decide +kernel
theorem dX8_hearing_41 : decode cX8_hearing 41 = .ok (.iconst 4, 1) := by decide +kernel
theorem dX8_hearing_42 : decode cX8_hearing 42 = .ok (.if_icmp .ne 9, 3) := by decide +kernel
theorem dX8_hearing_45 : decode cX8_hearing 45 = .ok (.aload_n 0, 1) := by decide +kernel
theorem dX8_hearing_46 : decode cX8_hearing 46 = .ok (.bipush 20, 2) := by decide +kernel
theorem dX8_hearing_48 : decode cX8_hearing 48 = .ok (.invokevirtual 284, 3) := by decide +kernel
theorem dX8_hearing_51 : decode cX8_hearing 51 = .ok (.aload_n 0, 1) := by decide +kernel
theorem dX8_hearing_52 : decode cX8_hearing 52 = .ok (.bipush 10, 2) := by decide +kernel
theorem dX8_hearing_54 : decode cX8_hearing 54 = .ok (.invokevirtual 284, 3) := by decide +kernel
theorem dX8_hearing_57 : decode cX8_hearing 57 = .ok (.iload_n 1, 1) := by decide +kernel
theorem dX8_hearing_58 : decode cX8_hearing 58 = .ok (.aload_n 0, 1) := by decide +kernel
theorem dX8_hearing_59 : decode cX8_hearing 59 = .ok (.getfield 281, 3) := by decide +kernel
theorem dX8_hearing_62 : decode cX8_hearing 62 = .ok (.iadd, 1) := by decide +kernel
theorem dX8_hearing_63 : decode cX8_hearing 63 = .ok (.istore_n 3, 1) := by decide +kernel
theorem dX8_hearing_64 : decode cX8_hearing 64 = .ok (.iload_n 2, 1) := by decide +kernel
theorem dX8_hearing_65 : decode cX8_hearing 65 = .ok (.iconst 1, 1) := by decide +kernel
theorem dX8_hearing_66 : decode cX8_hearing 66 = .ok (.if_icmp .ne 10, 3) := by decide +kernel
theorem dX8_hearing_69 : decode cX8_hearing 69 = .ok (.iload_n 3, 1) := by decide +kernel
theorem dX8_hearing_70 : decode cX8_hearing 70 = .ok (.bipush 6, 2) := by decide +kernel
theorem dX8_hearing_72 : decode cX8_hearing 72 = .ok (.isub, 1) := by decide +kernel
theorem dX8_hearing_73 : decode cX8_hearing 73 = .ok (.goto 18, 3) := by decide +kernel
theorem dX8_hearing_76 : decode cX8_hearing 76 = .ok (.iload_n 2, 1) := by decide +kernel
theorem dX8_hearing_77 : decode cX8_hearing 77 = .ok (.iconst 4, 1) := by decide +kernel
theorem dX8_hearing_78 : decode cX8_hearing 78 = .ok (.if_icmp .ne 12, 3) := by decide +kernel
theorem dX8_hearing_81 : decode cX8_hearing 81 = .ok (.iload_n 3, 1) := by decide +kernel
theorem dX8_hearing_82 : decode cX8_hearing 82 = .ok (.bipush 6, 2) := by decide +kernel
theorem dX8_hearing_84 : decode cX8_hearing 84 = .ok (.isub, 1) := by decide +kernel
theorem dX8_hearing_85 : decode cX8_hearing 85 = .ok (.iconst 3, 1) := by decide +kernel
theorem dX8_hearing_86 : decode cX8_hearing 86 = .ok (.imul, 1) := by decide +kernel
theorem dX8_hearing_87 : decode cX8_hearing 87 = .ok (.goto 4, 3) := by decide +kernel
theorem dX8_hearing_90 : decode cX8_hearing 90 = .ok (.iload_n 3, 1) := by decide +kernel
theorem dX8_hearing_91 : decode cX8_hearing 91 = .ok (.ireturn, 1) := by decide +kernel
theorem dX8_telling_0 : decode cX8_telling 0 = .ok (.aload_n 0, 1) := by decide +kernel
theorem dX8_telling_1 : decode cX8_telling 1 = .ok (.aload_n 0, 1) := by decide +kernel
theorem dX8_telling_2 : decode cX8_telling 2 = .ok (.getfield 281, 3) := by decide +kernel
theorem dX8_telling_5 : decode cX8_telling 5 = .ok (.iconst 0, 1) := by decide +kernel
theorem dX8_telling_6 : decode cX8_telling 6 = .ok (.invokevirtual 60, 3) := by decide +kernel
theorem dX8_telling_9 : decode cX8_telling 9 = .ok (.istore_n 2, 1) := by decide +kernel
theorem dX8_telling_10 : decode cX8_telling 10 = .ok (.iload_n 2, 1) := by decide +kernel
theorem dX8_telling_11 : decode cX8_telling 11 = .ok (.bipush 6, 2) := by decide +kernel
theorem dX8_telling_13 : decode cX8_telling 13 = .ok (.if_icmp .ne 9, 3) := by decide +kernel
theorem dX8_telling_16 : decode cX8_telling 16 = .ok (.aload_n 0, 1) := by decide +kernel
theorem dX8_telling_17 : decode cX8_telling 17 = .ok (.bipush 71, 2) := by decide +kernel
theorem dX8_telling_19 : decode cX8_telling 19 = .ok (.invokevirtual 284, 3) := by decide +kernel
theorem dX8_telling_22 : decode cX8_telling 22 = .ok (.iload_n 2, 1) := by decide +kernel
theorem dX8_telling_23 : decode cX8_telling 23 = .ok (.iconst 5, 1) := by decide +kernel
theorem dX8_telling_24 : decode cX8_telling 24 = .ok (.if_icmp .ne 9, 3) := by decide +kernel
theorem dX8_telling_27 : decode cX8_telling 27 = .ok (.aload_n 0, 1) := by decide +kernel
theorem dX8_telling_28 : decode cX8_telling 28 = .ok (.bipush 60, 2) := by decide +kernel
theorem dX8_telling_30 : decode cX8_telling 30 = .ok (.invokevirtual 284, 3) := by decide +kernel
theorem dX8_telling_33 : decode cX8_telling 33 = .ok (.iload_n 2, 1) := by decide +kernel
theorem dX8_telling_34 : decode cX8_telling 34 = .ok (.iconst 2, 1) := by decide +kernel
theorem dX8_telling_35 : decode cX8_telling 35 = .ok (.if_icmp .eq 8, 3) := by decide +kernel
theorem dX8_telling_38 : decode cX8_telling 38 = .ok (.iload_n 2, 1) := by decide +kernel
theorem dX8_telling_39 : decode cX8_telling 39 = .ok (.iconst 5, 1) := by decide +kernel
theorem dX8_telling_40 : decode cX8_telling 40 = .ok (.if_icmp .ne 9, 3) := by decide +kernel
theorem dX8_telling_43 : decode cX8_telling 43 = .ok (.aload_n 0, 1) := by decide +kernel
theorem dX8_telling_44 : decode cX8_telling 44 = .ok (.bipush 30, 2) := by decide +kernel
theorem dX8_telling_46 : decode cX8_telling 46 = .ok (.invokevirtual 284, 3) := by decide +kernel
theorem dX8_telling_49 : decode cX8_telling 49 = .ok (.aload_n 0, 1) := by decide +kernel
theorem dX8_telling_50 : decode cX8_telling 50 = .ok (.bipush 11, 2) := by decide +kernel
theorem dX8_telling_52 : decode cX8_telling 52 = .ok (.invokevirtual 284, 3) := by decide +kernel
theorem dX8_telling_55 : decode cX8_telling 55 = .ok (.aload_n 0, 1) := by decide +kernel
theorem dX8_telling_56 : decode cX8_telling 56 = .ok (.iload_n 2, 1) := by decide +kernel
theorem dX8_telling_57 : decode cX8_telling 57 = .ok (.iconst 5, 1) := by decide +kernel
theorem dX8_telling_58 : decode cX8_telling 58 = .ok (.if_icmp .ne 9, 3) := by decide +kernel
theorem dX8_telling_61 : decode cX8_telling 61 = .ok (.iload_n 1, 1) := by decide +kernel
theorem dX8_telling_62 : decode cX8_telling 62 = .ok (.iconst 1, 1) := by decide +kernel
theorem dX8_telling_63 : decode cX8_telling 63 = .ok (.iadd, 1) := by decide +kernel
theorem dX8_telling_64 : decode cX8_telling 64 = .ok (.goto 4, 3) := by decide +kernel
theorem dX8_telling_67 : decode cX8_telling 67 = .ok (.iload_n 1, 1) := by decide +kernel
theorem dX8_telling_68 : decode cX8_telling 68 = .ok (.invokevirtual 287, 3) := by decide +kernel
theorem dX8_telling_71 : decode cX8_telling 71 = .ok (.iconst 2, 1) := by decide +kernel
theorem dX8_telling_72 : decode cX8_telling 72 = .ok (.imul, 1) := by decide +kernel
theorem dX8_telling_73 : decode cX8_telling 73 = .ok (.istore_n 3, 1) := by decide +kernel
theorem dX8_telling_74 : decode cX8_telling 74 = .ok (.iload_n 2, 1) := by decide +kernel
theorem dX8_telling_75 : decode cX8_telling 75 = .ok (.bipush 6, 2) := by decide +kernel
theorem dX8_telling_77 : decode cX8_telling 77 = .ok (.if_icmp .ne 17, 3) := by decide +kernel
theorem dX8_telling_80 : decode cX8_telling 80 = .ok (.iload_n 3, 1) := by decide +kernel
theorem dX8_telling_81 : decode cX8_telling 81 = .ok (.aload_n 0, 1) := by decide +kernel
theorem dX8_telling_82 : decode cX8_telling 82 = .ok (.aload_n 0, 1) := by decide +kernel
theorem dX8_telling_83 : decode cX8_telling 83 = .ok (.getfield 281, 3) := by decide +kernel
theorem dX8_telling_86 : decode cX8_telling 86 = .ok (.iconst 1, 1) := by decide +kernel
theorem dX8_telling_87 : decode cX8_telling 87 = .ok (.invokevirtual 60, 3) := by decide +kernel
theorem dX8_telling_90 : decode cX8_telling 90 = .ok (.iadd, 1) := by decide +kernel
theorem dX8_telling_91 : decode cX8_telling 91 = .ok (.goto 20, 3) := by decide +kernel
theorem dX8_telling_94 : decode cX8_telling 94 = .ok (.iload_n 2, 1) := by decide +kernel
theorem dX8_telling_95 : decode cX8_telling 95 = .ok (.iconst 2, 1) := by decide +kernel
theorem dX8_telling_96 : decode cX8_telling 96 = .ok (.if_icmp .eq 8, 3) := by decide +kernel
theorem dX8_telling_99 : decode cX8_telling 99 = .ok (.iload_n 2, 1) := by decide +kernel
theorem dX8_telling_100 : decode cX8_telling 100 = .ok (.iconst 5, 1) := by decide +kernel
theorem dX8_telling_101 : decode cX8_telling 101 = .ok (.if_icmp .ne 9, 3) := by decide +kernel
theorem dX8_telling_104 : decode cX8_telling 104 = .ok (.iconst 0, 1) := by decide +kernel
theorem dX8_telling_105 : decode cX8_telling 105 = .ok (.iload_n 3, 1) := by decide +kernel
theorem dX8_telling_106 : decode cX8_telling 106 = .ok (.isub, 1) := by decide +kernel
theorem dX8_telling_107 : decode cX8_telling 107 = .ok (.goto 4, 3) := by decide +kernel
theorem dX8_telling_110 : decode cX8_telling 110 = .ok (.iload_n 3, 1) := by decide +kernel
theorem dX8_telling_111 : decode cX8_telling 111 = .ok (.ireturn, 1) := by decide +kernel
theorem dX8_bunking_0 : decode cX8_bunking 0 = .ok (.aload_n 0, 1) := by decide +kernel
theorem dX8_bunking_1 : decode cX8_bunking 1 = .ok (.aload_n 0, 1) := by decide +kernel
theorem dX8_bunking_2 : decode cX8_bunking 2 = .ok (.getfield 281, 3) := by decide +kernel
theorem dX8_bunking_5 : decode cX8_bunking 5 = .ok (.iconst 0, 1) := by decide +kernel
theorem dX8_bunking_6 : decode cX8_bunking 6 = .ok (.invokevirtual 60, 3) := by decide +kernel
theorem dX8_bunking_9 : decode cX8_bunking 9 = .ok (.istore_n 2, 1) := by decide +kernel
theorem dX8_bunking_10 : decode cX8_bunking 10 = .ok (.iload_n 2, 1) := by decide +kernel
theorem dX8_bunking_11 : decode cX8_bunking 11 = .ok (.iconst 3, 1) := by decide +kernel
theorem dX8_bunking_12 : decode cX8_bunking 12 = .ok (.if_icmp .ne 9, 3) := by decide +kernel
theorem dX8_bunking_15 : decode cX8_bunking 15 = .ok (.aload_n 0, 1) := by decide +kernel
theorem dX8_bunking_16 : decode cX8_bunking 16 = .ok (.bipush 40, 2) := by decide +kernel
theorem dX8_bunking_18 : decode cX8_bunking 18 = .ok (.invokevirtual 284, 3) := by decide +kernel
theorem dX8_bunking_21 : decode cX8_bunking 21 = .ok (.iload_n 2, 1) := by decide +kernel
theorem dX8_bunking_22 : decode cX8_bunking 22 = .ok (.iconst 4, 1) := by decide +kernel
theorem dX8_bunking_23 : decode cX8_bunking 23 = .ok (.if_icmp .ne 9, 3) := by decide +kernel
theorem dX8_bunking_26 : decode cX8_bunking 26 = .ok (.aload_n 0, 1) := by decide +kernel
theorem dX8_bunking_27 : decode cX8_bunking 27 = .ok (.bipush 51, 2) := by decide +kernel
theorem dX8_bunking_29 : decode cX8_bunking 29 = .ok (.invokevirtual 284, 3) := by decide +kernel
theorem dX8_bunking_32 : decode cX8_bunking 32 = .ok (.aload_n 0, 1) := by decide +kernel
theorem dX8_bunking_33 : decode cX8_bunking 33 = .ok (.bipush 12, 2) := by decide +kernel
theorem dX8_bunking_35 : decode cX8_bunking 35 = .ok (.invokevirtual 284, 3) := by decide +kernel
theorem dX8_bunking_38 : decode cX8_bunking 38 = .ok (.aload_n 0, 1) := by decide +kernel
theorem dX8_bunking_39 : decode cX8_bunking 39 = .ok (.iload_n 2, 1) := by decide +kernel
theorem dX8_bunking_40 : decode cX8_bunking 40 = .ok (.iconst 3, 1) := by decide +kernel
theorem dX8_bunking_41 : decode cX8_bunking 41 = .ok (.if_icmp .ne 9, 3) := by decide +kernel
theorem dX8_bunking_44 : decode cX8_bunking 44 = .ok (.iload_n 1, 1) := by decide +kernel
theorem dX8_bunking_45 : decode cX8_bunking 45 = .ok (.iconst 2, 1) := by decide +kernel
theorem dX8_bunking_46 : decode cX8_bunking 46 = .ok (.idiv, 1) := by decide +kernel
theorem dX8_bunking_47 : decode cX8_bunking 47 = .ok (.goto 4, 3) := by decide +kernel
theorem dX8_bunking_50 : decode cX8_bunking 50 = .ok (.iload_n 1, 1) := by decide +kernel
theorem dX8_bunking_51 : decode cX8_bunking 51 = .ok (.invokevirtual 290, 3) := by decide +kernel
theorem dX8_bunking_54 : decode cX8_bunking 54 = .ok (.aload_n 0, 1) := by decide +kernel
theorem dX8_bunking_55 : decode cX8_bunking 55 = .ok (.aload_n 0, 1) := by decide +kernel
theorem dX8_bunking_56 : decode cX8_bunking 56 = .ok (.getfield 281, 3) := by decide +kernel
theorem dX8_bunking_59 : decode cX8_bunking 59 = .ok (.iconst 1, 1) := by decide +kernel
theorem dX8_bunking_60 : decode cX8_bunking 60 = .ok (.invokevirtual 60, 3) := by decide +kernel
theorem dX8_bunking_63 : decode cX8_bunking 63 = .ok (.isub, 1) := by decide +kernel
theorem dX8_bunking_64 : decode cX8_bunking 64 = .ok (.istore_n 3, 1) := by decide +kernel
theorem dX8_bunking_65 : decode cX8_bunking 65 = .ok (.iload_n 2, 1) := by decide +kernel
theorem dX8_bunking_66 : decode cX8_bunking 66 = .ok (.iconst 4, 1) := by decide +kernel
theorem dX8_bunking_67 : decode cX8_bunking 67 = .ok (.if_icmp .ne 12, 3) := by decide +kernel
theorem dX8_bunking_70 : decode cX8_bunking 70 = .ok (.iload_n 3, 1) := by decide +kernel
theorem dX8_bunking_71 : decode cX8_bunking 71 = .ok (.aload_n 0, 1) := by decide +kernel
theorem dX8_bunking_72 : decode cX8_bunking 72 = .ok (.getfield 281, 3) := by decide +kernel
theorem dX8_bunking_75 : decode cX8_bunking 75 = .ok (.ixor, 1) := by decide +kernel
theorem dX8_bunking_76 : decode cX8_bunking 76 = .ok (.goto 4, 3) := by decide +kernel
theorem dX8_bunking_79 : decode cX8_bunking 79 = .ok (.iload_n 3, 1) := by decide +kernel
theorem dX8_bunking_80 : decode cX8_bunking 80 = .ok (.ireturn, 1) := by decide +kernel
theorem dX8_parting_0 : decode cX8_parting 0 = .ok (.aload_n 0, 1) := by decide +kernel
theorem dX8_parting_1 : decode cX8_parting 1 = .ok (.aload_n 0, 1) := by decide +kernel
theorem dX8_parting_2 : decode cX8_parting 2 = .ok (.getfield 281, 3) := by decide +kernel
theorem dX8_parting_5 : decode cX8_parting 5 = .ok (.iconst 0, 1) := by decide +kernel
theorem dX8_parting_6 : decode cX8_parting 6 = .ok (.invokevirtual 60, 3) := by decide +kernel
theorem dX8_parting_9 : decode cX8_parting 9 = .ok (.istore_n 2, 1) := by decide +kernel
theorem dX8_parting_10 : decode cX8_parting 10 = .ok (.iload_n 2, 1) := by decide +kernel
theorem dX8_parting_11 : decode cX8_parting 11 = .ok (.iconst 1, 1) := by decide +kernel
theorem dX8_parting_12 : decode cX8_parting 12 = .ok (.if_icmp .eq 8, 3) := by decide +kernel
theorem dX8_parting_15 : decode cX8_parting 15 = .ok (.iload_n 2, 1) := by decide +kernel
theorem dX8_parting_16 : decode cX8_parting 16 = .ok (.iconst 4, 1) := by decide +kernel
theorem dX8_parting_17 : decode cX8_parting 17 = .ok (.if_icmp .ne 9, 3) := by decide +kernel
theorem dX8_parting_20 : decode cX8_parting 20 = .ok (.aload_n 0, 1) := by decide +kernel
theorem dX8_parting_21 : decode cX8_parting 21 = .ok (.bipush 21, 2) := by decide +kernel
theorem dX8_parting_23 : decode cX8_parting 23 = .ok (.invokevirtual 284, 3) := by decide +kernel
theorem dX8_parting_26 : decode cX8_parting 26 = .ok (.aload_n 0, 1) := by decide +kernel
theorem dX8_parting_27 : decode cX8_parting 27 = .ok (.bipush 13, 2) := by decide +kernel
theorem dX8_parting_29 : decode cX8_parting 29 = .ok (.invokevirtual 284, 3) := by decide +kernel
theorem dX8_parting_32 : decode cX8_parting 32 = .ok (.aload_n 0, 1) := by decide +kernel
theorem dX8_parting_33 : decode cX8_parting 33 = .ok (.aload_n 0, 1) := by decide +kernel
theorem dX8_parting_34 : decode cX8_parting 34 = .ok (.getfield 281, 3) := by decide +kernel
theorem dX8_parting_37 : decode cX8_parting 37 = .ok (.iconst 1, 1) := by decide +kernel
theorem dX8_parting_38 : decode cX8_parting 38 = .ok (.invokevirtual 60, 3) := by decide +kernel
theorem dX8_parting_41 : decode cX8_parting 41 = .ok (.aload_n 0, 1) := by decide +kernel
theorem dX8_parting_42 : decode cX8_parting 42 = .ok (.getfield 281, 3) := by decide +kernel
theorem dX8_parting_45 : decode cX8_parting 45 = .ok (.isub, 1) := by decide +kernel
theorem dX8_parting_46 : decode cX8_parting 46 = .ok (.istore_n 3, 1) := by decide +kernel
theorem dX8_parting_47 : decode cX8_parting 47 = .ok (.aload_n 0, 1) := by decide +kernel
theorem dX8_parting_48 : decode cX8_parting 48 = .ok (.iload_n 3, 1) := by decide +kernel
theorem dX8_parting_49 : decode cX8_parting 49 = .ok (.ifCond .ne 7, 3) := by decide +kernel
theorem dX8_parting_52 : decode cX8_parting 52 = .ok (.iconst 1, 1) := by decide +kernel
theorem dX8_parting_53 : decode cX8_parting 53 = .ok (.goto 4, 3) := by decide +kernel
theorem dX8_parting_56 : decode cX8_parting 56 = .ok (.iconst 0, 1) := by decide +kernel
theorem dX8_parting_57 : decode cX8_parting 57 = .ok (.putfield 293, 3) := by decide +kernel
theorem dX8_parting_60 : decode cX8_parting 60 = .ok (.aload_n 0, 1) := by decide +kernel
theorem dX8_parting_61 : decode cX8_parting 61 = .ok (.getfield 293, 3) := by decide +kernel
theorem dX8_parting_64 : decode cX8_parting 64 = .ok (.ifCond .eq 7, 3) := by decide +kernel
theorem dX8_parting_67 : decode cX8_parting 67 = .ok (.iconst 0, 1) := by decide +kernel
theorem dX8_parting_68 : decode cX8_parting 68 = .ok (.goto 17, 3) := by decide +kernel
theorem dX8_parting_71 : decode cX8_parting 71 = .ok (.iload_n 3, 1) := by decide +kernel
theorem dX8_parting_72 : decode cX8_parting 72 = .ok (.iconst (-1), 1) := by decide +kernel
theorem dX8_parting_73 : decode cX8_parting 73 = .ok (.if_icmp .ne 9, 3) := by decide +kernel
theorem dX8_parting_76 : decode cX8_parting 76 = .ok (.iconst 0, 1) := by decide +kernel
theorem dX8_parting_77 : decode cX8_parting 77 = .ok (.iload_n 1, 1) := by decide +kernel
theorem dX8_parting_78 : decode cX8_parting 78 = .ok (.isub, 1) := by decide +kernel
theorem dX8_parting_79 : decode cX8_parting 79 = .ok (.goto 6, 3) := by decide +kernel
theorem dX8_parting_82 : decode cX8_parting 82 = .ok (.iload_n 1, 1) := by decide +kernel
theorem dX8_parting_83 : decode cX8_parting 83 = .ok (.iload_n 3, 1) := by decide +kernel
theorem dX8_parting_84 : decode cX8_parting 84 = .ok (.idiv, 1) := by decide +kernel
theorem dX8_parting_85 : decode cX8_parting 85 = .ok (.istore 4, 2) := by decide +kernel
theorem dX8_parting_87 : decode cX8_parting 87 = .ok (.aload_n 0, 1) := by decide +kernel
theorem dX8_parting_88 : decode cX8_parting 88 = .ok (.getfield 293, 3) := by decide +kernel
theorem dX8_parting_91 : decode cX8_parting 91 = .ok (.ifCond .ne 24, 3) := by decide +kernel
theorem dX8_parting_94 : decode cX8_parting 94 = .ok (.iload_n 2, 1) := by decide +kernel
theorem dX8_parting_95 : decode cX8_parting 95 = .ok (.iconst 1, 1) := by decide +kernel
theorem dX8_parting_96 : decode cX8_parting 96 = .ok (.if_icmp .eq 8, 3) := by decide +kernel
theorem dX8_parting_99 : decode cX8_parting 99 = .ok (.iload_n 2, 1) := by decide +kernel
theorem dX8_parting_100 : decode cX8_parting 100 = .ok (.iconst 4, 1) := by decide +kernel
theorem dX8_parting_101 : decode cX8_parting 101 = .ok (.if_icmp .ne 14, 3) := by decide +kernel
theorem dX8_parting_104 : decode cX8_parting 104 = .ok (.iload 4, 2) := by decide +kernel
theorem dX8_parting_106 : decode cX8_parting 106 = .ok (.aload_n 0, 1) := by decide +kernel
theorem dX8_parting_107 : decode cX8_parting 107 = .ok (.iconst 1, 1) := by decide +kernel
theorem dX8_parting_108 : decode cX8_parting 108 = .ok (.invokevirtual 290, 3) := by decide +kernel
theorem dX8_parting_111 : decode cX8_parting 111 = .ok (.iadd, 1) := by decide +kernel
theorem dX8_parting_112 : decode cX8_parting 112 = .ok (.goto 5, 3) := by decide +kernel
theorem dX8_parting_115 : decode cX8_parting 115 = .ok (.iload 4, 2) := by decide +kernel
theorem dX8_parting_117 : decode cX8_parting 117 = .ok (.ireturn, 1) := by decide +kernel
theorem dX8_voice_0 : decode cX8_voice 0 = .ok (.aload_n 0, 1) := by decide +kernel
theorem dX8_voice_1 : decode cX8_voice 1 = .ok (.iload_n 1, 1) := by decide +kernel
theorem dX8_voice_2 : decode cX8_voice 2 = .ok (.invokevirtual 98, 3) := by decide +kernel
theorem dX8_voice_5 : decode cX8_voice 5 = .ok (.ifCond .eq 15, 3) := by decide +kernel
theorem dX8_voice_8 : decode cX8_voice 8 = .ok (.iload_n 2, 1) := by decide +kernel
theorem dX8_voice_9 : decode cX8_voice 9 = .ok (.i2l, 1) := by decide +kernel
theorem dX8_voice_10 : decode cX8_voice 10 = .ok (.lconst 0, 1) := by decide +kernel
theorem dX8_voice_11 : decode cX8_voice 11 = .ok (.ldc2_w 134, 3) := by decide +kernel
theorem dX8_voice_14 : decode cX8_voice 14 = .ok (.invokestatic 44, 3) := by decide +kernel
theorem dX8_voice_17 : decode cX8_voice 17 = .ok (.ifCond .ne 10, 3) := by decide +kernel
theorem dX8_voice_20 : decode cX8_voice 20 = .ok (.aload_n 0, 1) := by decide +kernel
theorem dX8_voice_21 : decode cX8_voice 21 = .ok (.ldc 43, 2) := by decide +kernel
theorem dX8_voice_23 : decode cX8_voice 23 = .ok (.invokevirtual 84, 3) := by decide +kernel
theorem dX8_voice_26 : decode cX8_voice 26 = .ok (.ireturn, 1) := by decide +kernel
theorem dX8_voice_27 : decode cX8_voice 27 = .ok (.aload_n 0, 1) := by decide +kernel
theorem dX8_voice_28 : decode cX8_voice 28 = .ok (.iload_n 1, 1) := by decide +kernel
theorem dX8_voice_29 : decode cX8_voice 29 = .ok (.putfield 281, 3) := by decide +kernel
theorem dX8_voice_32 : decode cX8_voice 32 = .ok (.aload_n 0, 1) := by decide +kernel
theorem dX8_voice_33 : decode cX8_voice 33 = .ok (.iconst 0, 1) := by decide +kernel
theorem dX8_voice_34 : decode cX8_voice 34 = .ok (.putfield 278, 3) := by decide +kernel
theorem dX8_voice_37 : decode cX8_voice 37 = .ok (.aload_n 0, 1) := by decide +kernel
theorem dX8_voice_38 : decode cX8_voice 38 = .ok (.iconst 0, 1) := by decide +kernel
theorem dX8_voice_39 : decode cX8_voice 39 = .ok (.putfield 293, 3) := by decide +kernel
theorem dX8_voice_42 : decode cX8_voice 42 = .ok (.iload_n 2, 1) := by decide +kernel
theorem dX8_voice_43 : decode cX8_voice 43 = .ok (.ifCond .ne 11, 3) := by decide +kernel
theorem dX8_voice_46 : decode cX8_voice 46 = .ok (.aload_n 0, 1) := by decide +kernel
theorem dX8_voice_47 : decode cX8_voice 47 = .ok (.iload_n 3, 1) := by decide +kernel
theorem dX8_voice_48 : decode cX8_voice 48 = .ok (.invokevirtual 287, 3) := by decide +kernel
theorem dX8_voice_51 : decode cX8_voice 51 = .ok (.goto 34, 3) := by decide +kernel
theorem dX8_voice_54 : decode cX8_voice 54 = .ok (.iload_n 2, 1) := by decide +kernel
theorem dX8_voice_55 : decode cX8_voice 55 = .ok (.iconst 1, 1) := by decide +kernel
theorem dX8_voice_56 : decode cX8_voice 56 = .ok (.if_icmp .ne 11, 3) := by decide +kernel
theorem dX8_voice_59 : decode cX8_voice 59 = .ok (.aload_n 0, 1) := by decide +kernel
theorem dX8_voice_60 : decode cX8_voice 60 = .ok (.iload_n 3, 1) := by decide +kernel
theorem dX8_voice_61 : decode cX8_voice 61 = .ok (.invokevirtual 290, 3) := by decide +kernel
theorem dX8_voice_64 : decode cX8_voice 64 = .ok (.goto 21, 3) := by decide +kernel
theorem dX8_voice_67 : decode cX8_voice 67 = .ok (.iload_n 2, 1) := by decide +kernel
theorem dX8_voice_68 : decode cX8_voice 68 = .ok (.iconst 2, 1) := by decide +kernel
theorem dX8_voice_69 : decode cX8_voice 69 = .ok (.if_icmp .ne 11, 3) := by decide +kernel
theorem dX8_voice_72 : decode cX8_voice 72 = .ok (.aload_n 0, 1) := by decide +kernel
theorem dX8_voice_73 : decode cX8_voice 73 = .ok (.iload_n 3, 1) := by decide +kernel
theorem dX8_voice_74 : decode cX8_voice 74 = .ok (.invokevirtual 296, 3) := by decide +kernel
theorem dX8_voice_77 : decode cX8_voice 77 = .ok (.goto 8, 3) := by decide +kernel
theorem dX8_voice_80 : decode cX8_voice 80 = .ok (.aload_n 0, 1) := by decide +kernel
theorem dX8_voice_81 : decode cX8_voice 81 = .ok (.iload_n 3, 1) := by decide +kernel
theorem dX8_voice_82 : decode cX8_voice 82 = .ok (.invokevirtual 299, 3) := by decide +kernel
theorem dX8_voice_85 : decode cX8_voice 85 = .ok (.istore 4, 2) := by decide +kernel
theorem dX8_voice_87 : decode cX8_voice 87 = .ok (.aload_n 0, 1) := by decide +kernel
theorem dX8_voice_88 : decode cX8_voice 88 = .ok (.getfield 293, 3) := by decide +kernel
theorem dX8_voice_91 : decode cX8_voice 91 = .ok (.ifCond .eq 13, 3) := by decide +kernel
theorem dX8_voice_94 : decode cX8_voice 94 = .ok (.aload_n 0, 1) := by decide +kernel
theorem dX8_voice_95 : decode cX8_voice 95 = .ok (.ldc_w 302, 3) := by decide +kernel
theorem dX8_voice_98 : decode cX8_voice 98 = .ok (.invokevirtual 84, 3) := by decide +kernel
theorem dX8_voice_101 : decode cX8_voice 101 = .ok (.goto 5, 3) := by decide +kernel
theorem dX8_voice_104 : decode cX8_voice 104 = .ok (.iload 4, 2) := by decide +kernel
theorem dX8_voice_106 : decode cX8_voice 106 = .ok (.ireturn, 1) := by decide +kernel
theorem dX8_body_0 : decode cX8_body 0 = .ok (.iload_n 1, 1) := by decide +kernel
theorem dX8_body_1 : decode cX8_body 1 = .ok (.i2l, 1) := by decide +kernel
theorem dX8_body_2 : decode cX8_body 2 = .ok (.lconst 0, 1) := by decide +kernel
theorem dX8_body_3 : decode cX8_body 3 = .ok (.aload_n 0, 1) := by decide +kernel
theorem dX8_body_4 : decode cX8_body 4 = .ok (.getfield 278, 3) := by decide +kernel
theorem dX8_body_7 : decode cX8_body 7 = .ok (.iconst 1, 1) := by decide +kernel
theorem dX8_body_8 : decode cX8_body 8 = .ok (.isub, 1) := by decide +kernel
theorem dX8_body_9 : decode cX8_body 9 = .ok (.i2l, 1) := by decide +kernel
theorem dX8_body_10 : decode cX8_body 10 = .ok (.invokestatic 44, 3) := by decide +kernel
theorem dX8_body_13 : decode cX8_body 13 = .ok (.ifCond .eq 12, 3) := by decide +kernel
theorem dX8_body_16 : decode cX8_body 16 = .ok (.aload_n 0, 1) := by decide +kernel
theorem dX8_body_17 : decode cX8_body 17 = .ok (.getfield 28, 3) := by decide +kernel
theorem dX8_body_20 : decode cX8_body 20 = .ok (.iload_n 1, 1) := by decide +kernel
theorem dX8_body_21 : decode cX8_body 21 = .ok (.iaload, 1) := by decide +kernel
theorem dX8_body_22 : decode cX8_body 22 = .ok (.goto 10, 3) := by decide +kernel
theorem dX8_body_25 : decode cX8_body 25 = .ok (.aload_n 0, 1) := by decide +kernel
theorem dX8_body_26 : decode cX8_body 26 = .ok (.ldc_w 262, 3) := by decide +kernel
theorem dX8_body_29 : decode cX8_body 29 = .ok (.invokevirtual 84, 3) := by decide +kernel
theorem dX8_body_32 : decode cX8_body 32 = .ok (.ireturn, 1) := by decide +kernel
theorem dX8_isSheet_0 : decode cX8_isSheet 0 = .ok (.iload_n 0, 1) := by decide +kernel
theorem dX8_isSheet_1 : decode cX8_isSheet 1 = .ok (.i2l, 1) := by decide +kernel
theorem dX8_isSheet_2 : decode cX8_isSheet 2 = .ok (.lconst 0, 1) := by decide +kernel
theorem dX8_isSheet_3 : decode cX8_isSheet 3 = .ok (.ldc2_w 134, 3) := by decide +kernel
theorem dX8_isSheet_6 : decode cX8_isSheet 6 = .ok (.invokestatic 44, 3) := by decide +kernel
theorem dX8_isSheet_9 : decode cX8_isSheet 9 = .ok (.ireturn, 1) := by decide +kernel
theorem dX8_wrong_0 : decode cX8_wrong 0 = .ok (.iload_n 1, 1) := by decide +kernel
theorem dX8_wrong_1 : decode cX8_wrong 1 = .ok (.invokestatic 303, 3) := by decide +kernel
theorem dX8_wrong_4 : decode cX8_wrong 4 = .ok (.ifCond .ne 8, 3) := by decide +kernel
theorem dX8_wrong_7 : decode cX8_wrong 7 = .ok (.ldc 43, 2) := by decide +kernel
theorem dX8_wrong_9 : decode cX8_wrong 9 = .ok (.goto 19, 3) := by decide +kernel
theorem dX8_wrong_12 : decode cX8_wrong 12 = .ok (.aload_n 0, 1) := by decide +kernel
theorem dX8_wrong_13 : decode cX8_wrong 13 = .ok (.getfield 31, 3) := by decide +kernel
theorem dX8_wrong_16 : decode cX8_wrong 16 = .ok (.iload_n 1, 1) := by decide +kernel
theorem dX8_wrong_17 : decode cX8_wrong 17 = .ok (.iaload, 1) := by decide +kernel
theorem dX8_wrong_18 : decode cX8_wrong 18 = .ok (.ifCond .ne 9, 3) := by decide +kernel
theorem dX8_wrong_21 : decode cX8_wrong 21 = .ok (.ldc_w 262, 3) := by decide +kernel
theorem dX8_wrong_24 : decode cX8_wrong 24 = .ok (.goto 4, 3) := by decide +kernel
theorem dX8_wrong_27 : decode cX8_wrong 27 = .ok (.iconst 0, 1) := by decide +kernel
theorem dX8_wrong_28 : decode cX8_wrong 28 = .ok (.ireturn, 1) := by decide +kernel
theorem dX8_sheet_0 : decode cX8_sheet 0 = .ok (.iload_n 1, 1) := by decide +kernel
theorem dX8_sheet_1 : decode cX8_sheet 1 = .ok (.invokestatic 303, 3) := by decide +kernel
theorem dX8_sheet_4 : decode cX8_sheet 4 = .ok (.ifCond .eq 29, 3) := by decide +kernel
theorem dX8_sheet_7 : decode cX8_sheet 7 = .ok (.iload_n 2, 1) := by decide +kernel
theorem dX8_sheet_8 : decode cX8_sheet 8 = .ok (.ifCond .eq 21, 3) := by decide +kernel
theorem dX8_sheet_11 : decode cX8_sheet 11 = .ok (.iload_n 2, 1) := by decide +kernel
theorem dX8_sheet_12 : decode cX8_sheet 12 = .ok (.bipush 8, 2) := by decide +kernel
theorem dX8_sheet_14 : decode cX8_sheet 14 = .ok (.if_icmp .eq 15, 3) := by decide +kernel
theorem dX8_sheet_17 : decode cX8_sheet 17 = .ok (.iload_n 2, 1) := by decide +kernel
theorem dX8_sheet_18 : decode cX8_sheet 18 = .ok (.bipush 16, 2) := by decide +kernel
theorem dX8_sheet_20 : decode cX8_sheet 20 = .ok (.if_icmp .eq 9, 3) := by decide +kernel
theorem dX8_sheet_23 : decode cX8_sheet 23 = .ok (.iload_n 2, 1) := by decide +kernel
theorem dX8_sheet_24 : decode cX8_sheet 24 = .ok (.bipush 32, 2) := by decide +kernel
theorem dX8_sheet_26 : decode cX8_sheet 26 = .ok (.if_icmp .ne 7, 3) := by decide +kernel
theorem dX8_sheet_29 : decode cX8_sheet 29 = .ok (.iconst 1, 1) := by decide +kernel
theorem dX8_sheet_30 : decode cX8_sheet 30 = .ok (.goto 4, 3) := by decide +kernel
theorem dX8_sheet_33 : decode cX8_sheet 33 = .ok (.iconst 0, 1) := by decide +kernel
theorem dX8_sheet_34 : decode cX8_sheet 34 = .ok (.istore 4, 2) := by decide +kernel
theorem dX8_sheet_36 : decode cX8_sheet 36 = .ok (.iload 4, 2) := by decide +kernel
theorem dX8_sheet_38 : decode cX8_sheet 38 = .ok (.ifCond .ne 10, 3) := by decide +kernel
theorem dX8_sheet_41 : decode cX8_sheet 41 = .ok (.aload_n 0, 1) := by decide +kernel
theorem dX8_sheet_42 : decode cX8_sheet 42 = .ok (.ldc 43, 2) := by decide +kernel
theorem dX8_sheet_44 : decode cX8_sheet 44 = .ok (.invokevirtual 84, 3) := by decide +kernel
theorem dX8_sheet_47 : decode cX8_sheet 47 = .ok (.ireturn, 1) := by decide +kernel
theorem dX8_sheet_48 : decode cX8_sheet 48 = .ok (.iload_n 2, 1) := by decide +kernel
theorem dX8_sheet_49 : decode cX8_sheet 49 = .ok (.ifCond .eq 14, 3) := by decide +kernel
theorem dX8_sheet_52 : decode cX8_sheet 52 = .ok (.iload_n 3, 1) := by decide +kernel
theorem dX8_sheet_53 : decode cX8_sheet 53 = .ok (.ifCond .ge 10, 3) := by decide +kernel
theorem dX8_sheet_56 : decode cX8_sheet 56 = .ok (.aload_n 0, 1) := by decide +kernel
theorem dX8_sheet_57 : decode cX8_sheet 57 = .ok (.ldc 247, 2) := by decide +kernel
theorem dX8_sheet_59 : decode cX8_sheet 59 = .ok (.invokevirtual 84, 3) := by decide +kernel
theorem dX8_sheet_62 : decode cX8_sheet 62 = .ok (.ireturn, 1) := by decide +kernel
theorem dX8_sheet_63 : decode cX8_sheet 63 = .ok (.iload_n 2, 1) := by decide +kernel
theorem dX8_sheet_64 : decode cX8_sheet 64 = .ok (.ifCond .eq 16, 3) := by decide +kernel
theorem dX8_sheet_67 : decode cX8_sheet 67 = .ok (.iload_n 3, 1) := by decide +kernel
theorem dX8_sheet_68 : decode cX8_sheet 68 = .ok (.bipush 24, 2) := by decide +kernel
theorem dX8_sheet_70 : decode cX8_sheet 70 = .ok (.if_icmp .le 10, 3) := by decide +kernel
theorem dX8_sheet_73 : decode cX8_sheet 73 = .ok (.aload_n 0, 1) := by decide +kernel
theorem dX8_sheet_74 : decode cX8_sheet 74 = .ok (.ldc 43, 2) := by decide +kernel
theorem dX8_sheet_76 : decode cX8_sheet 76 = .ok (.invokevirtual 84, 3) := by decide +kernel
theorem dX8_sheet_79 : decode cX8_sheet 79 = .ok (.ireturn, 1) := by decide +kernel
theorem dX8_sheet_80 : decode cX8_sheet 80 = .ok (.aload_n 0, 1) := by decide +kernel
theorem dX8_sheet_81 : decode cX8_sheet 81 = .ok (.getfield 31, 3) := by decide +kernel
theorem dX8_sheet_84 : decode cX8_sheet 84 = .ok (.iload_n 1, 1) := by decide +kernel
theorem dX8_sheet_85 : decode cX8_sheet 85 = .ok (.iload_n 2, 1) := by decide +kernel
theorem dX8_sheet_86 : decode cX8_sheet 86 = .ok (.iastore, 1) := by decide +kernel
theorem dX8_sheet_87 : decode cX8_sheet 87 = .ok (.aload_n 0, 1) := by decide +kernel
theorem dX8_sheet_88 : decode cX8_sheet 88 = .ok (.getfield 34, 3) := by decide +kernel
theorem dX8_sheet_91 : decode cX8_sheet 91 = .ok (.iload_n 1, 1) := by decide +kernel
theorem dX8_sheet_92 : decode cX8_sheet 92 = .ok (.iload_n 2, 1) := by decide +kernel
theorem dX8_sheet_93 : decode cX8_sheet 93 = .ok (.ifCond .ne 7, 3) := by decide +kernel
theorem dX8_sheet_96 : decode cX8_sheet 96 = .ok (.iconst 0, 1) := by decide +kernel
theorem dX8_sheet_97 : decode cX8_sheet 97 = .ok (.goto 4, 3) := by decide +kernel
theorem dX8_sheet_100 : decode cX8_sheet 100 = .ok (.iload_n 3, 1) := by decide +kernel
theorem dX8_sheet_101 : decode cX8_sheet 101 = .ok (.iastore, 1) := by decide +kernel
theorem dX8_sheet_102 : decode cX8_sheet 102 = .ok (.iconst 0, 1) := by decide +kernel
theorem dX8_sheet_103 : decode cX8_sheet 103 = .ok (.istore 5, 2) := by decide +kernel
theorem dX8_sheet_105 : decode cX8_sheet 105 = .ok (.iload 5, 2) := by decide +kernel
theorem dX8_sheet_107 : decode cX8_sheet 107 = .ok (.bipush 24, 2) := by decide +kernel
theorem dX8_sheet_109 : decode cX8_sheet 109 = .ok (.if_icmp .ge 22, 3) := by decide +kernel
theorem dX8_sheet_112 : decode cX8_sheet 112 = .ok (.aload_n 0, 1) := by decide +kernel
theorem dX8_sheet_113 : decode cX8_sheet 113 = .ok (.getfield 37, 3) := by decide +kernel
theorem dX8_sheet_116 : decode cX8_sheet 116 = .ok (.bipush 24, 2) := by decide +kernel
theorem dX8_sheet_118 : decode cX8_sheet 118 = .ok (.iload_n 1, 1) := by decide +kernel
theorem dX8_sheet_119 : decode cX8_sheet 119 = .ok (.imul, 1) := by decide +kernel
theorem dX8_sheet_120 : decode cX8_sheet 120 = .ok (.iload 5, 2) := by decide +kernel
theorem dX8_sheet_122 : decode cX8_sheet 122 = .ok (.iadd, 1) := by decide +kernel
theorem dX8_sheet_123 : decode cX8_sheet 123 = .ok (.iconst 0, 1) := by decide +kernel
theorem dX8_sheet_124 : decode cX8_sheet 124 = .ok (.iastore, 1) := by decide +kernel
theorem dX8_sheet_125 : decode cX8_sheet 125 = .ok (.iinc 5 1, 3) := by decide +kernel
theorem dX8_sheet_128 : decode cX8_sheet 128 = .ok (.goto (-23), 3) := by decide +kernel
theorem dX8_sheet_131 : decode cX8_sheet 131 = .ok (.iconst 1, 1) := by decide +kernel
theorem dX8_sheet_132 : decode cX8_sheet 132 = .ok (.ireturn, 1) := by decide +kernel
theorem dX8_put_0 : decode cX8_put 0 = .ok (.aload_n 0, 1) := by decide +kernel
theorem dX8_put_1 : decode cX8_put 1 = .ok (.iload_n 1, 1) := by decide +kernel
theorem dX8_put_2 : decode cX8_put 2 = .ok (.invokevirtual 306, 3) := by decide +kernel
theorem dX8_put_5 : decode cX8_put 5 = .ok (.istore 4, 2) := by decide +kernel
theorem dX8_put_7 : decode cX8_put 7 = .ok (.iload 4, 2) := by decide +kernel
theorem dX8_put_9 : decode cX8_put 9 = .ok (.ifCond .ne 25, 3) := by decide +kernel
theorem dX8_put_12 : decode cX8_put 12 = .ok (.iload_n 2, 1) := by decide +kernel
theorem dX8_put_13 : decode cX8_put 13 = .ok (.i2l, 1) := by decide +kernel
theorem dX8_put_14 : decode cX8_put 14 = .ok (.lconst 0, 1) := by decide +kernel
theorem dX8_put_15 : decode cX8_put 15 = .ok (.aload_n 0, 1) := by decide +kernel
theorem dX8_put_16 : decode cX8_put 16 = .ok (.getfield 34, 3) := by decide +kernel
theorem dX8_put_19 : decode cX8_put 19 = .ok (.iload_n 1, 1) := by decide +kernel
theorem dX8_put_20 : decode cX8_put 20 = .ok (.iaload, 1) := by decide +kernel
theorem dX8_put_21 : decode cX8_put 21 = .ok (.iconst 1, 1) := by decide +kernel
theorem dX8_put_22 : decode cX8_put 22 = .ok (.isub, 1) := by decide +kernel
theorem dX8_put_23 : decode cX8_put 23 = .ok (.i2l, 1) := by decide +kernel
theorem dX8_put_24 : decode cX8_put 24 = .ok (.invokestatic 44, 3) := by decide +kernel
theorem dX8_put_27 : decode cX8_put 27 = .ok (.ifCond .ne 7, 3) := by decide +kernel
theorem dX8_put_30 : decode cX8_put 30 = .ok (.ldc 43, 2) := by decide +kernel
theorem dX8_put_32 : decode cX8_put 32 = .ok (.istore 4, 2) := by decide +kernel
theorem dX8_put_34 : decode cX8_put 34 = .ok (.iload 4, 2) := by decide +kernel
theorem dX8_put_36 : decode cX8_put 36 = .ok (.ifCond .eq 10, 3) := by decide +kernel
theorem dX8_put_39 : decode cX8_put 39 = .ok (.aload_n 0, 1) := by decide +kernel
theorem dX8_put_40 : decode cX8_put 40 = .ok (.iload 4, 2) := by decide +kernel
theorem dX8_put_42 : decode cX8_put 42 = .ok (.invokevirtual 84, 3) := by decide +kernel
theorem dX8_put_45 : decode cX8_put 45 = .ok (.ireturn, 1) := by decide +kernel
theorem dX8_put_46 : decode cX8_put 46 = .ok (.aload_n 0, 1) := by decide +kernel
theorem dX8_put_47 : decode cX8_put 47 = .ok (.getfield 37, 3) := by decide +kernel
theorem dX8_put_50 : decode cX8_put 50 = .ok (.bipush 24, 2) := by decide +kernel
theorem dX8_put_52 : decode cX8_put 52 = .ok (.iload_n 1, 1) := by decide +kernel
theorem dX8_put_53 : decode cX8_put 53 = .ok (.imul, 1) := by decide +kernel
theorem dX8_put_54 : decode cX8_put 54 = .ok (.iload_n 2, 1) := by decide +kernel
theorem dX8_put_55 : decode cX8_put 55 = .ok (.iadd, 1) := by decide +kernel
theorem dX8_put_56 : decode cX8_put 56 = .ok (.aload_n 0, 1) := by decide +kernel
theorem dX8_put_57 : decode cX8_put 57 = .ok (.getfield 31, 3) := by decide +kernel
theorem dX8_put_60 : decode cX8_put 60 = .ok (.iload_n 1, 1) := by decide +kernel
theorem dX8_put_61 : decode cX8_put 61 = .ok (.iaload, 1) := by decide +kernel
theorem dX8_put_62 : decode cX8_put 62 = .ok (.bipush 8, 2) := by decide +kernel
theorem dX8_put_64 : decode cX8_put 64 = .ok (.if_icmp .ne 8, 3) := by decide +kernel
theorem dX8_put_67 : decode cX8_put 67 = .ok (.iload_n 3, 1) := by decide +kernel
theorem dX8_put_68 : decode cX8_put 68 = .ok (.i2b, 1) := by decide +kernel
theorem dX8_put_69 : decode cX8_put 69 = .ok (.goto 20, 3) := by decide +kernel
theorem dX8_put_72 : decode cX8_put 72 = .ok (.aload_n 0, 1) := by decide +kernel
theorem dX8_put_73 : decode cX8_put 73 = .ok (.getfield 31, 3) := by decide +kernel
theorem dX8_put_76 : decode cX8_put 76 = .ok (.iload_n 1, 1) := by decide +kernel
theorem dX8_put_77 : decode cX8_put 77 = .ok (.iaload, 1) := by decide +kernel
theorem dX8_put_78 : decode cX8_put 78 = .ok (.bipush 16, 2) := by decide +kernel
theorem dX8_put_80 : decode cX8_put 80 = .ok (.if_icmp .ne 8, 3) := by decide +kernel
theorem dX8_put_83 : decode cX8_put 83 = .ok (.iload_n 3, 1) := by decide +kernel
theorem dX8_put_84 : decode cX8_put 84 = .ok (.i2s, 1) := by decide +kernel
theorem dX8_put_85 : decode cX8_put 85 = .ok (.goto 4, 3) := by decide +kernel
theorem dX8_put_88 : decode cX8_put 88 = .ok (.iload_n 3, 1) := by decide +kernel
theorem dX8_put_89 : decode cX8_put 89 = .ok (.iastore, 1) := by decide +kernel
theorem dX8_put_90 : decode cX8_put 90 = .ok (.iconst 1, 1) := by decide +kernel
theorem dX8_put_91 : decode cX8_put 91 = .ok (.ireturn, 1) := by decide +kernel
theorem dX8_isStanding_0 : decode cX8_isStanding 0 = .ok (.iload_n 2, 1) := by decide +kernel
theorem dX8_isStanding_1 : decode cX8_isStanding 1 = .ok (.ifCond .lt 23, 3) := by decide +kernel
theorem dX8_isStanding_4 : decode cX8_isStanding 4 = .ok (.iload_n 2, 1) := by decide +kernel
theorem dX8_isStanding_5 : decode cX8_isStanding 5 = .ok (.i2l, 1) := by decide +kernel
theorem dX8_isStanding_6 : decode cX8_isStanding 6 = .ok (.iload_n 3, 1) := by decide +kernel
theorem dX8_isStanding_7 : decode cX8_isStanding 7 = .ok (.i2l, 1) := by decide +kernel
theorem dX8_isStanding_8 : decode cX8_isStanding 8 = .ok (.ladd, 1) := by decide +kernel
theorem dX8_isStanding_9 : decode cX8_isStanding 9 = .ok (.aload_n 0, 1) := by decide +kernel
theorem dX8_isStanding_10 : decode cX8_isStanding 10 = .ok (.getfield 34, 3) := by decide +kernel
theorem dX8_isStanding_13 : decode cX8_isStanding 13 = .ok (.iload_n 1, 1) := by decide +kernel
theorem dX8_isStanding_14 : decode cX8_isStanding 14 = .ok (.iaload, 1) := by decide +kernel
theorem dX8_isStanding_15 : decode cX8_isStanding 15 = .ok (.i2l, 1) := by decide +kernel
theorem dX8_isStanding_16 : decode cX8_isStanding 16 = .ok (.lcmp, 1) := by decide +kernel
theorem dX8_isStanding_17 : decode cX8_isStanding 17 = .ok (.ifCond .gt 7, 3) := by decide +kernel
theorem dX8_isStanding_20 : decode cX8_isStanding 20 = .ok (.iconst 1, 1) := by decide +kernel
theorem dX8_isStanding_21 : decode cX8_isStanding 21 = .ok (.goto 4, 3) := by decide +kernel
theorem dX8_isStanding_24 : decode cX8_isStanding 24 = .ok (.iconst 0, 1) := by decide +kernel
theorem dX8_isStanding_25 : decode cX8_isStanding 25 = .ok (.ireturn, 1) := by decide +kernel
theorem dX8_move_0 : decode cX8_move 0 = .ok (.iload_n 1, 1) := by decide +kernel
theorem dX8_move_1 : decode cX8_move 1 = .ok (.invokestatic 303, 3) := by decide +kernel
theorem dX8_move_4 : decode cX8_move 4 = .ok (.ifCond .eq 10, 3) := by decide +kernel
theorem dX8_move_7 : decode cX8_move 7 = .ok (.iload_n 3, 1) := by decide +kernel
theorem dX8_move_8 : decode cX8_move 8 = .ok (.invokestatic 303, 3) := by decide +kernel
theorem dX8_move_11 : decode cX8_move 11 = .ok (.ifCond .ne 10, 3) := by decide +kernel
theorem dX8_move_14 : decode cX8_move 14 = .ok (.aload_n 0, 1) := by decide +kernel
theorem dX8_move_15 : decode cX8_move 15 = .ok (.ldc 43, 2) := by decide +kernel
theorem dX8_move_17 : decode cX8_move 17 = .ok (.invokevirtual 84, 3) := by decide +kernel
theorem dX8_move_20 : decode cX8_move 20 = .ok (.ireturn, 1) := by decide +kernel
theorem dX8_move_21 : decode cX8_move 21 = .ok (.aload_n 0, 1) := by decide +kernel
theorem dX8_move_22 : decode cX8_move 22 = .ok (.getfield 31, 3) := by decide +kernel
theorem dX8_move_25 : decode cX8_move 25 = .ok (.iload_n 1, 1) := by decide +kernel
theorem dX8_move_26 : decode cX8_move 26 = .ok (.iaload, 1) := by decide +kernel
theorem dX8_move_27 : decode cX8_move 27 = .ok (.ifCond .eq 12, 3) := by decide +kernel
theorem dX8_move_30 : decode cX8_move 30 = .ok (.aload_n 0, 1) := by decide +kernel
theorem dX8_move_31 : decode cX8_move 31 = .ok (.getfield 31, 3) := by decide +kernel
theorem dX8_move_34 : decode cX8_move 34 = .ok (.iload_n 3, 1) := by decide +kernel
theorem dX8_move_35 : decode cX8_move 35 = .ok (.iaload, 1) := by decide +kernel
theorem dX8_move_36 : decode cX8_move 36 = .ok (.ifCond .ne 11, 3) := by decide +kernel
theorem dX8_move_39 : decode cX8_move 39 = .ok (.aload_n 0, 1) := by decide +kernel
theorem dX8_move_40 : decode cX8_move 40 = .ok (.ldc_w 262, 3) := by decide +kernel
theorem dX8_move_43 : decode cX8_move 43 = .ok (.invokevirtual 84, 3) := by decide +kernel
theorem dX8_move_46 : decode cX8_move 46 = .ok (.ireturn, 1) := by decide +kernel
theorem dX8_move_47 : decode cX8_move 47 = .ok (.aload_n 0, 1) := by decide +kernel
theorem dX8_move_48 : decode cX8_move 48 = .ok (.getfield 31, 3) := by decide +kernel
theorem dX8_move_51 : decode cX8_move 51 = .ok (.iload_n 1, 1) := by decide +kernel
theorem dX8_move_52 : decode cX8_move 52 = .ok (.iaload, 1) := by decide +kernel
theorem dX8_move_53 : decode cX8_move 53 = .ok (.aload_n 0, 1) := by decide +kernel
theorem dX8_move_54 : decode cX8_move 54 = .ok (.getfield 31, 3) := by decide +kernel
theorem dX8_move_57 : decode cX8_move 57 = .ok (.iload_n 3, 1) := by decide +kernel
theorem dX8_move_58 : decode cX8_move 58 = .ok (.iaload, 1) := by decide +kernel
theorem dX8_move_59 : decode cX8_move 59 = .ok (.if_icmp .eq 10, 3) := by decide +kernel
theorem dX8_move_62 : decode cX8_move 62 = .ok (.aload_n 0, 1) := by decide +kernel
theorem dX8_move_63 : decode cX8_move 63 = .ok (.ldc 108, 2) := by decide +kernel
theorem dX8_move_65 : decode cX8_move 65 = .ok (.invokevirtual 84, 3) := by decide +kernel
theorem dX8_move_68 : decode cX8_move 68 = .ok (.ireturn, 1) := by decide +kernel
theorem dX8_move_69 : decode cX8_move 69 = .ok (.iload 5, 2) := by decide +kernel
theorem dX8_move_71 : decode cX8_move 71 = .ok (.ifCond .lt 26, 3) := by decide +kernel
theorem dX8_move_74 : decode cX8_move 74 = .ok (.aload_n 0, 1) := by decide +kernel
theorem dX8_move_75 : decode cX8_move 75 = .ok (.iload_n 1, 1) := by decide +kernel
theorem dX8_move_76 : decode cX8_move 76 = .ok (.iload_n 2, 1) := by decide +kernel
theorem dX8_move_77 : decode cX8_move 77 = .ok (.iload 5, 2) := by decide +kernel
theorem dX8_move_79 : decode cX8_move 79 = .ok (.invokevirtual 309, 3) := by decide +kernel
theorem dX8_move_82 : decode cX8_move 82 = .ok (.ifCond .eq 15, 3) := by decide +kernel
theorem dX8_move_85 : decode cX8_move 85 = .ok (.aload_n 0, 1) := by decide +kernel
theorem dX8_move_86 : decode cX8_move 86 = .ok (.iload_n 3, 1) := by decide +kernel
theorem dX8_move_87 : decode cX8_move 87 = .ok (.iload 4, 2) := by decide +kernel
theorem dX8_move_89 : decode cX8_move 89 = .ok (.iload 5, 2) := by decide +kernel
theorem dX8_move_91 : decode cX8_move 91 = .ok (.invokevirtual 309, 3) := by decide +kernel
theorem dX8_move_94 : decode cX8_move 94 = .ok (.ifCond .ne 10, 3) := by decide +kernel
theorem dX8_move_97 : decode cX8_move 97 = .ok (.aload_n 0, 1) := by decide +kernel
theorem dX8_move_98 : decode cX8_move 98 = .ok (.ldc 43, 2) := by decide +kernel
theorem dX8_move_100 : decode cX8_move 100 = .ok (.invokevirtual 84, 3) := by decide +kernel
theorem dX8_move_103 : decode cX8_move 103 = .ok (.ireturn, 1) := by decide +kernel
theorem dX8_move_104 : decode cX8_move 104 = .ok (.iconst 0, 1) := by decide +kernel
theorem dX8_move_105 : decode cX8_move 105 = .ok (.istore 6, 2) := by decide +kernel
theorem dX8_move_107 : decode cX8_move 107 = .ok (.iload 6, 2) := by decide +kernel
theorem dX8_move_109 : decode cX8_move 109 = .ok (.iload 5, 2) := by decide +kernel
theorem dX8_move_111 : decode cX8_move 111 = .ok (.if_icmp .ge 30, 3) := by decide +kernel
theorem dX8_move_114 : decode cX8_move 114 = .ok (.aload_n 0, 1) := by decide +kernel
theorem dX8_move_115 : decode cX8_move 115 = .ok (.getfield 40, 3) := by decide +kernel
theorem dX8_move_118 : decode cX8_move 118 = .ok (.iload 6, 2) := by decide +kernel
theorem dX8_move_120 : decode cX8_move 120 = .ok (.aload_n 0, 1) := by decide +kernel
theorem dX8_move_121 : decode cX8_move 121 = .ok (.getfield 37, 3) := by decide +kernel
theorem dX8_move_124 : decode cX8_move 124 = .ok (.bipush 24, 2) := by decide +kernel
theorem dX8_move_126 : decode cX8_move 126 = .ok (.iload_n 1, 1) := by decide +kernel
theorem dX8_move_127 : decode cX8_move 127 = .ok (.imul, 1) := by decide +kernel
theorem dX8_move_128 : decode cX8_move 128 = .ok (.iload_n 2, 1) := by decide +kernel
theorem dX8_move_129 : decode cX8_move 129 = .ok (.iadd, 1) := by decide +kernel
theorem dX8_move_130 : decode cX8_move 130 = .ok (.iload 6, 2) := by decide +kernel
theorem dX8_move_132 : decode cX8_move 132 = .ok (.iadd, 1) := by decide +kernel
theorem dX8_move_133 : decode cX8_move 133 = .ok (.iaload, 1) := by decide +kernel
theorem dX8_move_134 : decode cX8_move 134 = .ok (.iastore, 1) := by decide +kernel
theorem dX8_move_135 : decode cX8_move 135 = .ok (.iinc 6 1, 3) := by decide +kernel
theorem dX8_move_138 : decode cX8_move 138 = .ok (.goto (-31), 3) := by decide +kernel
theorem dX8_move_141 : decode cX8_move 141 = .ok (.iconst 0, 1) := by decide +kernel
theorem dX8_move_142 : decode cX8_move 142 = .ok (.istore 6, 2) := by decide +kernel
theorem dX8_move_144 : decode cX8_move 144 = .ok (.iload 6, 2) := by decide +kernel
theorem dX8_move_146 : decode cX8_move 146 = .ok (.iload 5, 2) := by decide +kernel
theorem dX8_move_148 : decode cX8_move 148 = .ok (.if_icmp .ge 31, 3) := by decide +kernel
theorem dX8_move_151 : decode cX8_move 151 = .ok (.aload_n 0, 1) := by decide +kernel
theorem dX8_move_152 : decode cX8_move 152 = .ok (.getfield 37, 3) := by decide +kernel
theorem dX8_move_155 : decode cX8_move 155 = .ok (.bipush 24, 2) := by decide +kernel
theorem dX8_move_157 : decode cX8_move 157 = .ok (.iload_n 3, 1) := by decide +kernel
theorem dX8_move_158 : decode cX8_move 158 = .ok (.imul, 1) := by decide +kernel
theorem dX8_move_159 : decode cX8_move 159 = .ok (.iload 4, 2) := by decide +kernel
theorem dX8_move_161 : decode cX8_move 161 = .ok (.iadd, 1) := by decide +kernel
theorem dX8_move_162 : decode cX8_move 162 = .ok (.iload 6, 2) := by decide +kernel
theorem dX8_move_164 : decode cX8_move 164 = .ok (.iadd, 1) := by decide +kernel
theorem dX8_move_165 : decode cX8_move 165 = .ok (.aload_n 0, 1) := by decide +kernel
theorem dX8_move_166 : decode cX8_move 166 = .ok (.getfield 40, 3) := by decide +kernel
theorem dX8_move_169 : decode cX8_move 169 = .ok (.iload 6, 2) := by decide +kernel
theorem dX8_move_171 : decode cX8_move 171 = .ok (.iaload, 1) := by decide +kernel
theorem dX8_move_172 : decode cX8_move 172 = .ok (.iastore, 1) := by decide +kernel
theorem dX8_move_173 : decode cX8_move 173 = .ok (.iinc 6 1, 3) := by decide +kernel
theorem dX8_move_176 : decode cX8_move 176 = .ok (.goto (-32), 3) := by decide +kernel
theorem dX8_move_179 : decode cX8_move 179 = .ok (.iload 5, 2) := by decide +kernel
theorem dX8_move_181 : decode cX8_move 181 = .ok (.ireturn, 1) := by decide +kernel
theorem dX8_rosters_0 : decode cX8_rosters 0 = .ok (.aload_n 0, 1) := by decide +kernel
theorem dX8_rosters_1 : decode cX8_rosters 1 = .ok (.iload_n 1, 1) := by decide +kernel
theorem dX8_rosters_2 : decode cX8_rosters 2 = .ok (.invokevirtual 306, 3) := by decide +kernel
theorem dX8_rosters_5 : decode cX8_rosters 5 = .ok (.istore_n 2, 1) := by decide +kernel
theorem dX8_rosters_6 : decode cX8_rosters 6 = .ok (.iload_n 2, 1) := by decide +kernel
theorem dX8_rosters_7 : decode cX8_rosters 7 = .ok (.ifCond .eq 9, 3) := by decide +kernel
theorem dX8_rosters_10 : decode cX8_rosters 10 = .ok (.aload_n 0, 1) := by decide +kernel
theorem dX8_rosters_11 : decode cX8_rosters 11 = .ok (.iload_n 2, 1) := by decide +kernel
theorem dX8_rosters_12 : decode cX8_rosters 12 = .ok (.invokevirtual 84, 3) := by decide +kernel
theorem dX8_rosters_15 : decode cX8_rosters 15 = .ok (.ireturn, 1) := by decide +kernel
theorem dX8_rosters_16 : decode cX8_rosters 16 = .ok (.iconst 0, 1) := by decide +kernel
theorem dX8_rosters_17 : decode cX8_rosters 17 = .ok (.istore_n 3, 1) := by decide +kernel
theorem dX8_rosters_18 : decode cX8_rosters 18 = .ok (.iconst 2, 1) := by decide +kernel
theorem dX8_rosters_19 : decode cX8_rosters 19 = .ok (.iload_n 3, 1) := by decide +kernel
theorem dX8_rosters_20 : decode cX8_rosters 20 = .ok (.imul, 1) := by decide +kernel
theorem dX8_rosters_21 : decode cX8_rosters 21 = .ok (.iconst 1, 1) := by decide +kernel
theorem dX8_rosters_22 : decode cX8_rosters 22 = .ok (.iadd, 1) := by decide +kernel
theorem dX8_rosters_23 : decode cX8_rosters 23 = .ok (.aload_n 0, 1) := by decide +kernel
theorem dX8_rosters_24 : decode cX8_rosters 24 = .ok (.getfield 34, 3) := by decide +kernel
theorem dX8_rosters_27 : decode cX8_rosters 27 = .ok (.iload_n 1, 1) := by decide +kernel
theorem dX8_rosters_28 : decode cX8_rosters 28 = .ok (.iaload, 1) := by decide +kernel
theorem dX8_rosters_29 : decode cX8_rosters 29 = .ok (.if_icmp .ge 76, 3) := by decide +kernel
theorem dX8_rosters_32 : decode cX8_rosters 32 = .ok (.aload_n 0, 1) := by decide +kernel
theorem dX8_rosters_33 : decode cX8_rosters 33 = .ok (.aload_n 0, 1) := by decide +kernel
theorem dX8_rosters_34 : decode cX8_rosters 34 = .ok (.getfield 37, 3) := by decide +kernel
theorem dX8_rosters_37 : decode cX8_rosters 37 = .ok (.bipush 24, 2) := by decide +kernel
theorem dX8_rosters_39 : decode cX8_rosters 39 = .ok (.iload_n 1, 1) := by decide +kernel
theorem dX8_rosters_40 : decode cX8_rosters 40 = .ok (.imul, 1) := by decide +kernel
theorem dX8_rosters_41 : decode cX8_rosters 41 = .ok (.iconst 2, 1) := by decide +kernel
theorem dX8_rosters_42 : decode cX8_rosters 42 = .ok (.iload_n 3, 1) := by decide +kernel
theorem dX8_rosters_43 : decode cX8_rosters 43 = .ok (.imul, 1) := by decide +kernel
theorem dX8_rosters_44 : decode cX8_rosters 44 = .ok (.iadd, 1) := by decide +kernel
theorem dX8_rosters_45 : decode cX8_rosters 45 = .ok (.iaload, 1) := by decide +kernel
theorem dX8_rosters_46 : decode cX8_rosters 46 = .ok (.aload_n 0, 1) := by decide +kernel
theorem dX8_rosters_47 : decode cX8_rosters 47 = .ok (.getfield 37, 3) := by decide +kernel
theorem dX8_rosters_50 : decode cX8_rosters 50 = .ok (.bipush 24, 2) := by decide +kernel
theorem dX8_rosters_52 : decode cX8_rosters 52 = .ok (.iload_n 1, 1) := by decide +kernel
theorem dX8_rosters_53 : decode cX8_rosters 53 = .ok (.imul, 1) := by decide +kernel
theorem dX8_rosters_54 : decode cX8_rosters 54 = .ok (.iconst 2, 1) := by decide +kernel
theorem dX8_rosters_55 : decode cX8_rosters 55 = .ok (.iload_n 3, 1) := by decide +kernel
theorem dX8_rosters_56 : decode cX8_rosters 56 = .ok (.imul, 1) := by decide +kernel
theorem dX8_rosters_57 : decode cX8_rosters 57 = .ok (.iadd, 1) := by decide +kernel
theorem dX8_rosters_58 : decode cX8_rosters 58 = .ok (.iconst 1, 1) := by decide +kernel
theorem dX8_rosters_59 : decode cX8_rosters 59 = .ok (.iadd, 1) := by decide +kernel
theorem dX8_rosters_60 : decode cX8_rosters 60 = .ok (.iaload, 1) := by decide +kernel
theorem dX8_rosters_61 : decode cX8_rosters 61 = .ok (.invokevirtual 124, 3) := by decide +kernel
theorem dX8_rosters_64 : decode cX8_rosters 64 = .ok (.ifCond .ne 41, 3) := by decide +kernel
theorem dX8_rosters_67 : decode cX8_rosters 67 = .ok (.aload_n 0, 1) := by decide +kernel
theorem dX8_rosters_68 : decode cX8_rosters 68 = .ok (.aload_n 0, 1) := by decide +kernel
theorem dX8_rosters_69 : decode cX8_rosters 69 = .ok (.getfield 37, 3) := by decide +kernel
theorem dX8_rosters_72 : decode cX8_rosters 72 = .ok (.bipush 24, 2) := by decide +kernel
theorem dX8_rosters_74 : decode cX8_rosters 74 = .ok (.iload_n 1, 1) := by decide +kernel
theorem dX8_rosters_75 : decode cX8_rosters 75 = .ok (.imul, 1) := by decide +kernel
theorem dX8_rosters_76 : decode cX8_rosters 76 = .ok (.iconst 2, 1) := by decide +kernel
theorem dX8_rosters_77 : decode cX8_rosters 77 = .ok (.iload_n 3, 1) := by decide +kernel
theorem dX8_rosters_78 : decode cX8_rosters 78 = .ok (.imul, 1) := by decide +kernel
theorem dX8_rosters_79 : decode cX8_rosters 79 = .ok (.iadd, 1) := by decide +kernel
theorem dX8_rosters_80 : decode cX8_rosters 80 = .ok (.iaload, 1) := by decide +kernel
theorem dX8_rosters_81 : decode cX8_rosters 81 = .ok (.aload_n 0, 1) := by decide +kernel
theorem dX8_rosters_82 : decode cX8_rosters 82 = .ok (.getfield 37, 3) := by decide +kernel
theorem dX8_rosters_85 : decode cX8_rosters 85 = .ok (.bipush 24, 2) := by decide +kernel
theorem dX8_rosters_87 : decode cX8_rosters 87 = .ok (.iload_n 1, 1) := by decide +kernel
theorem dX8_rosters_88 : decode cX8_rosters 88 = .ok (.imul, 1) := by decide +kernel
theorem dX8_rosters_89 : decode cX8_rosters 89 = .ok (.iconst 2, 1) := by decide +kernel
theorem dX8_rosters_90 : decode cX8_rosters 90 = .ok (.iload_n 3, 1) := by decide +kernel
theorem dX8_rosters_91 : decode cX8_rosters 91 = .ok (.imul, 1) := by decide +kernel
theorem dX8_rosters_92 : decode cX8_rosters 92 = .ok (.iadd, 1) := by decide +kernel
theorem dX8_rosters_93 : decode cX8_rosters 93 = .ok (.iconst 1, 1) := by decide +kernel
theorem dX8_rosters_94 : decode cX8_rosters 94 = .ok (.iadd, 1) := by decide +kernel
theorem dX8_rosters_95 : decode cX8_rosters 95 = .ok (.iaload, 1) := by decide +kernel
theorem dX8_rosters_96 : decode cX8_rosters 96 = .ok (.invokevirtual 127, 3) := by decide +kernel
theorem dX8_rosters_99 : decode cX8_rosters 99 = .ok (.iinc 3 1, 3) := by decide +kernel
theorem dX8_rosters_102 : decode cX8_rosters 102 = .ok (.goto (-84), 3) := by decide +kernel
theorem dX8_rosters_105 : decode cX8_rosters 105 = .ok (.iload_n 3, 1) := by decide +kernel
theorem dX8_rosters_106 : decode cX8_rosters 106 = .ok (.ireturn, 1) := by decide +kernel
theorem dX8_judge_0 : decode cX8_judge 0 = .ok (.aload_n 0, 1) := by decide +kernel
theorem dX8_judge_1 : decode cX8_judge 1 = .ok (.iload_n 1, 1) := by decide +kernel
theorem dX8_judge_2 : decode cX8_judge 2 = .ok (.invokevirtual 306, 3) := by decide +kernel
theorem dX8_judge_5 : decode cX8_judge 5 = .ok (.istore_n 2, 1) := by decide +kernel
theorem dX8_judge_6 : decode cX8_judge 6 = .ok (.iload_n 2, 1) := by decide +kernel
theorem dX8_judge_7 : decode cX8_judge 7 = .ok (.ifCond .eq 9, 3) := by decide +kernel
theorem dX8_judge_10 : decode cX8_judge 10 = .ok (.aload_n 0, 1) := by decide +kernel
theorem dX8_judge_11 : decode cX8_judge 11 = .ok (.iload_n 2, 1) := by decide +kernel
theorem dX8_judge_12 : decode cX8_judge 12 = .ok (.invokevirtual 84, 3) := by decide +kernel
theorem dX8_judge_15 : decode cX8_judge 15 = .ok (.ireturn, 1) := by decide +kernel
theorem dX8_judge_16 : decode cX8_judge 16 = .ok (.iconst 0, 1) := by decide +kernel
theorem dX8_judge_17 : decode cX8_judge 17 = .ok (.istore_n 3, 1) := by decide +kernel
theorem dX8_judge_18 : decode cX8_judge 18 = .ok (.iload_n 3, 1) := by decide +kernel
theorem dX8_judge_19 : decode cX8_judge 19 = .ok (.aload_n 0, 1) := by decide +kernel
theorem dX8_judge_20 : decode cX8_judge 20 = .ok (.getfield 34, 3) := by decide +kernel
theorem dX8_judge_23 : decode cX8_judge 23 = .ok (.iload_n 1, 1) := by decide +kernel
theorem dX8_judge_24 : decode cX8_judge 24 = .ok (.iaload, 1) := by decide +kernel
theorem dX8_judge_25 : decode cX8_judge 25 = .ok (.if_icmp .ge 39, 3) := by decide +kernel
theorem dX8_judge_28 : decode cX8_judge 28 = .ok (.iload_n 3, 1) := by decide +kernel
theorem dX8_judge_29 : decode cX8_judge 29 = .ok (.aload_n 0, 1) := by decide +kernel
theorem dX8_judge_30 : decode cX8_judge 30 = .ok (.getfield 7, 3) := by decide +kernel
theorem dX8_judge_33 : decode cX8_judge 33 = .ok (.iconst 0, 1) := by decide +kernel
theorem dX8_judge_34 : decode cX8_judge 34 = .ok (.iaload, 1) := by decide +kernel
theorem dX8_judge_35 : decode cX8_judge 35 = .ok (.if_icmp .ge 29, 3) := by decide +kernel
theorem dX8_judge_38 : decode cX8_judge 38 = .ok (.aload_n 0, 1) := by decide +kernel
theorem dX8_judge_39 : decode cX8_judge 39 = .ok (.getfield 37, 3) := by decide +kernel
theorem dX8_judge_42 : decode cX8_judge 42 = .ok (.bipush 24, 2) := by decide +kernel
theorem dX8_judge_44 : decode cX8_judge 44 = .ok (.iload_n 1, 1) := by decide +kernel
theorem dX8_judge_45 : decode cX8_judge 45 = .ok (.imul, 1) := by decide +kernel
theorem dX8_judge_46 : decode cX8_judge 46 = .ok (.iload_n 3, 1) := by decide +kernel
theorem dX8_judge_47 : decode cX8_judge 47 = .ok (.iadd, 1) := by decide +kernel
theorem dX8_judge_48 : decode cX8_judge 48 = .ok (.iaload, 1) := by decide +kernel
theorem dX8_judge_49 : decode cX8_judge 49 = .ok (.aload_n 0, 1) := by decide +kernel
theorem dX8_judge_50 : decode cX8_judge 50 = .ok (.iload_n 3, 1) := by decide +kernel
theorem dX8_judge_51 : decode cX8_judge 51 = .ok (.iconst 3, 1) := by decide +kernel
theorem dX8_judge_52 : decode cX8_judge 52 = .ok (.invokevirtual 60, 3) := by decide +kernel
theorem dX8_judge_55 : decode cX8_judge 55 = .ok (.if_icmp .ne 9, 3) := by decide +kernel
theorem dX8_judge_58 : decode cX8_judge 58 = .ok (.iinc 3 1, 3) := by decide +kernel
theorem dX8_judge_61 : decode cX8_judge 61 = .ok (.goto (-43), 3) := by decide +kernel
theorem dX8_judge_64 : decode cX8_judge 64 = .ok (.iload_n 3, 1) := by decide +kernel
theorem dX8_judge_65 : decode cX8_judge 65 = .ok (.aload_n 0, 1) := by decide +kernel
theorem dX8_judge_66 : decode cX8_judge 66 = .ok (.getfield 34, 3) := by decide +kernel
theorem dX8_judge_69 : decode cX8_judge 69 = .ok (.iload_n 1, 1) := by decide +kernel
theorem dX8_judge_70 : decode cX8_judge 70 = .ok (.iaload, 1) := by decide +kernel
theorem dX8_judge_71 : decode cX8_judge 71 = .ok (.if_icmp .ne 17, 3) := by decide +kernel
theorem dX8_judge_74 : decode cX8_judge 74 = .ok (.iload_n 3, 1) := by decide +kernel
theorem dX8_judge_75 : decode cX8_judge 75 = .ok (.aload_n 0, 1) := by decide +kernel
theorem dX8_judge_76 : decode cX8_judge 76 = .ok (.getfield 7, 3) := by decide +kernel
theorem dX8_judge_79 : decode cX8_judge 79 = .ok (.iconst 0, 1) := by decide +kernel
theorem dX8_judge_80 : decode cX8_judge 80 = .ok (.iaload, 1) := by decide +kernel
theorem dX8_judge_81 : decode cX8_judge 81 = .ok (.if_icmp .ne 7, 3) := by decide +kernel
theorem dX8_judge_84 : decode cX8_judge 84 = .ok (.iconst (-1), 1) := by decide +kernel
theorem dX8_judge_85 : decode cX8_judge 85 = .ok (.goto 4, 3) := by decide +kernel
theorem dX8_judge_88 : decode cX8_judge 88 = .ok (.iload_n 3, 1) := by decide +kernel
theorem dX8_judge_89 : decode cX8_judge 89 = .ok (.ireturn, 1) := by decide +kernel
theorem dX8_image_0 : decode cX8_image 0 = .ok (.iconst 0, 1) := by decide +kernel
theorem dX8_image_1 : decode cX8_image 1 = .ok (.istore_n 1, 1) := by decide +kernel
theorem dX8_image_2 : decode cX8_image 2 = .ok (.iload_n 1, 1) := by decide +kernel
theorem dX8_image_3 : decode cX8_image 3 = .ok (.sipush 357, 3) := by decide +kernel
theorem dX8_image_6 : decode cX8_image 6 = .ok (.if_icmp .ge 21, 3) := by decide +kernel
theorem dX8_image_9 : decode cX8_image 9 = .ok (.aload_n 0, 1) := by decide +kernel
theorem dX8_image_10 : decode cX8_image 10 = .ok (.getfield 13, 3) := by decide +kernel
theorem dX8_image_13 : decode cX8_image 13 = .ok (.iload_n 1, 1) := by decide +kernel
theorem dX8_image_14 : decode cX8_image 14 = .ok (.aload_n 0, 1) := by decide +kernel
theorem dX8_image_15 : decode cX8_image 15 = .ok (.getfield 7, 3) := by decide +kernel
theorem dX8_image_18 : decode cX8_image 18 = .ok (.iload_n 1, 1) := by decide +kernel
theorem dX8_image_19 : decode cX8_image 19 = .ok (.iaload, 1) := by decide +kernel
theorem dX8_image_20 : decode cX8_image 20 = .ok (.iastore, 1) := by decide +kernel
theorem dX8_image_21 : decode cX8_image 21 = .ok (.iinc 1 1, 3) := by decide +kernel
theorem dX8_image_24 : decode cX8_image 24 = .ok (.goto (-22), 3) := by decide +kernel
theorem dX8_image_27 : decode cX8_image 27 = .ok (.aload_n 0, 1) := by decide +kernel
theorem dX8_image_28 : decode cX8_image 28 = .ok (.dup, 1) := by decide +kernel
theorem dX8_image_29 : decode cX8_image 29 = .ok (.getfield 312, 3) := by decide +kernel
theorem dX8_image_32 : decode cX8_image 32 = .ok (.iconst 1, 1) := by decide +kernel
theorem dX8_image_33 : decode cX8_image 33 = .ok (.iadd, 1) := by decide +kernel
theorem dX8_image_34 : decode cX8_image 34 = .ok (.putfield 312, 3) := by decide +kernel
theorem dX8_image_37 : decode cX8_image 37 = .ok (.aload_n 0, 1) := by decide +kernel
theorem dX8_image_38 : decode cX8_image 38 = .ok (.getfield 312, 3) := by decide +kernel
theorem dX8_image_41 : decode cX8_image 41 = .ok (.ireturn, 1) := by decide +kernel
theorem dX8_restore_0 : decode cX8_restore 0 = .ok (.aload_n 0, 1) := by decide +kernel
theorem dX8_restore_1 : decode cX8_restore 1 = .ok (.getfield 312, 3) := by decide +kernel
theorem dX8_restore_4 : decode cX8_restore 4 = .ok (.ifCond .ne 11, 3) := by decide +kernel
theorem dX8_restore_7 : decode cX8_restore 7 = .ok (.aload_n 0, 1) := by decide +kernel
theorem dX8_restore_8 : decode cX8_restore 8 = .ok (.ldc_w 262, 3) := by decide +kernel
theorem dX8_restore_11 : decode cX8_restore 11 = .ok (.invokevirtual 84, 3) := by decide +kernel
theorem dX8_restore_14 : decode cX8_restore 14 = .ok (.ireturn, 1) := by decide +kernel
theorem dX8_restore_15 : decode cX8_restore 15 = .ok (.iconst 0, 1) := by decide +kernel
theorem dX8_restore_16 : decode cX8_restore 16 = .ok (.istore_n 1, 1) := by decide +kernel
theorem dX8_restore_17 : decode cX8_restore 17 = .ok (.iload_n 1, 1) := by decide +kernel
theorem dX8_restore_18 : decode cX8_restore 18 = .ok (.sipush 357, 3) := by decide +kernel
theorem dX8_restore_21 : decode cX8_restore 21 = .ok (.if_icmp .ge 21, 3) := by decide +kernel
theorem dX8_restore_24 : decode cX8_restore 24 = .ok (.aload_n 0, 1) := by decide +kernel
theorem dX8_restore_25 : decode cX8_restore 25 = .ok (.getfield 7, 3) := by decide +kernel
theorem dX8_restore_28 : decode cX8_restore 28 = .ok (.iload_n 1, 1) := by decide +kernel
theorem dX8_restore_29 : decode cX8_restore 29 = .ok (.aload_n 0, 1) := by decide +kernel
theorem dX8_restore_30 : decode cX8_restore 30 = .ok (.getfield 13, 3) := by decide +kernel
theorem dX8_restore_33 : decode cX8_restore 33 = .ok (.iload_n 1, 1) := by decide +kernel
theorem dX8_restore_34 : decode cX8_restore 34 = .ok (.iaload, 1) := by decide +kernel
theorem dX8_restore_35 : decode cX8_restore 35 = .ok (.iastore, 1) := by decide +kernel
theorem dX8_restore_36 : decode cX8_restore 36 = .ok (.iinc 1 1, 3) := by decide +kernel
theorem dX8_restore_39 : decode cX8_restore 39 = .ok (.goto (-22), 3) := by decide +kernel
theorem dX8_restore_42 : decode cX8_restore 42 = .ok (.aload_n 0, 1) := by decide +kernel
theorem dX8_restore_43 : decode cX8_restore 43 = .ok (.getfield 7, 3) := by decide +kernel
theorem dX8_restore_46 : decode cX8_restore 46 = .ok (.iconst 3, 1) := by decide +kernel
theorem dX8_restore_47 : decode cX8_restore 47 = .ok (.iaload, 1) := by decide +kernel
theorem dX8_restore_48 : decode cX8_restore 48 = .ok (.ireturn, 1) := by decide +kernel
theorem dX8_tell_0 : decode cX8_tell 0 = .ok (.aload_n 0, 1) := by decide +kernel
theorem dX8_tell_1 : decode cX8_tell 1 = .ok (.getfield 7, 3) := by decide +kernel
theorem dX8_tell_4 : decode cX8_tell 4 = .ok (.bipush 8, 2) := by decide +kernel
theorem dX8_tell_6 : decode cX8_tell 6 = .ok (.iaload, 1) := by decide +kernel
theorem dX8_tell_7 : decode cX8_tell 7 = .ok (.bipush 24, 2) := by decide +kernel
theorem dX8_tell_9 : decode cX8_tell 9 = .ok (.if_icmp .ne 10, 3) := by decide +kernel
theorem dX8_tell_12 : decode cX8_tell 12 = .ok (.aload_n 0, 1) := by decide +kernel
theorem dX8_tell_13 : decode cX8_tell 13 = .ok (.ldc 87, 2) := by decide +kernel
theorem dX8_tell_15 : decode cX8_tell 15 = .ok (.invokevirtual 84, 3) := by decide +kernel
theorem dX8_tell_18 : decode cX8_tell 18 = .ok (.ireturn, 1) := by decide +kernel
theorem dX8_tell_19 : decode cX8_tell 19 = .ok (.aload_n 0, 1) := by decide +kernel
theorem dX8_tell_20 : decode cX8_tell 20 = .ok (.getfield 7, 3) := by decide +kernel
theorem dX8_tell_23 : decode cX8_tell 23 = .ok (.sipush 213, 3) := by decide +kernel
theorem dX8_tell_26 : decode cX8_tell 26 = .ok (.aload_n 0, 1) := by decide +kernel
theorem dX8_tell_27 : decode cX8_tell 27 = .ok (.getfield 7, 3) := by decide +kernel
theorem dX8_tell_30 : decode cX8_tell 30 = .ok (.bipush 8, 2) := by decide +kernel
theorem dX8_tell_32 : decode cX8_tell 32 = .ok (.iaload, 1) := by decide +kernel
theorem dX8_tell_33 : decode cX8_tell 33 = .ok (.iadd, 1) := by decide +kernel
theorem dX8_tell_34 : decode cX8_tell 34 = .ok (.iload_n 1, 1) := by decide +kernel
theorem dX8_tell_35 : decode cX8_tell 35 = .ok (.iastore, 1) := by decide +kernel
theorem dX8_tell_36 : decode cX8_tell 36 = .ok (.aload_n 0, 1) := by decide +kernel
theorem dX8_tell_37 : decode cX8_tell 37 = .ok (.getfield 7, 3) := by decide +kernel
theorem dX8_tell_40 : decode cX8_tell 40 = .ok (.bipush 8, 2) := by decide +kernel
theorem dX8_tell_42 : decode cX8_tell 42 = .ok (.dup2, 1) := by decide +kernel
theorem dX8_tell_43 : decode cX8_tell 43 = .ok (.iaload, 1) := by decide +kernel
theorem dX8_tell_44 : decode cX8_tell 44 = .ok (.iconst 1, 1) := by decide +kernel
theorem dX8_tell_45 : decode cX8_tell 45 = .ok (.iadd, 1) := by decide +kernel
theorem dX8_tell_46 : decode cX8_tell 46 = .ok (.iastore, 1) := by decide +kernel
theorem dX8_tell_47 : decode cX8_tell 47 = .ok (.aload_n 0, 1) := by decide +kernel
theorem dX8_tell_48 : decode cX8_tell 48 = .ok (.getfield 7, 3) := by decide +kernel
theorem dX8_tell_51 : decode cX8_tell 51 = .ok (.bipush 8, 2) := by decide +kernel
theorem dX8_tell_53 : decode cX8_tell 53 = .ok (.iaload, 1) := by decide +kernel
theorem dX8_tell_54 : decode cX8_tell 54 = .ok (.ireturn, 1) := by decide +kernel
theorem dX8_check_0 : decode cX8_check 0 = .ok (.aload_n 0, 1) := by decide +kernel
theorem dX8_check_1 : decode cX8_check 1 = .ok (.getfield 7, 3) := by decide +kernel
theorem dX8_check_4 : decode cX8_check 4 = .ok (.bipush 8, 2) := by decide +kernel
theorem dX8_check_6 : decode cX8_check 6 = .ok (.iaload, 1) := by decide +kernel
theorem dX8_check_7 : decode cX8_check 7 = .ok (.istore_n 2, 1) := by decide +kernel
theorem dX8_check_8 : decode cX8_check 8 = .ok (.aload_n 0, 1) := by decide +kernel
theorem dX8_check_9 : decode cX8_check 9 = .ok (.getfield 7, 3) := by decide +kernel
theorem dX8_check_12 : decode cX8_check 12 = .ok (.bipush 8, 2) := by decide +kernel
theorem dX8_check_14 : decode cX8_check 14 = .ok (.iconst 0, 1) := by decide +kernel
theorem dX8_check_15 : decode cX8_check 15 = .ok (.iastore, 1) := by decide +kernel
theorem dX8_check_16 : decode cX8_check 16 = .ok (.iload_n 1, 1) := by decide +kernel
theorem dX8_check_17 : decode cX8_check 17 = .ok (.invokestatic 113, 3) := by decide +kernel
theorem dX8_check_20 : decode cX8_check 20 = .ok (.ifCond .ne 10, 3) := by decide +kernel
theorem dX8_check_23 : decode cX8_check 23 = .ok (.aload_n 0, 1) := by decide +kernel
theorem dX8_check_24 : decode cX8_check 24 = .ok (.ldc 43, 2) := by decide +kernel
theorem dX8_check_26 : decode cX8_check 26 = .ok (.invokevirtual 84, 3) := by decide +kernel
theorem dX8_check_29 : decode cX8_check 29 = .ok (.ireturn, 1) := by decide +kernel
theorem dX8_check_30 : decode cX8_check 30 = .ok (.aload_n 0, 1) := by decide +kernel
theorem dX8_check_31 : decode cX8_check 31 = .ok (.invokevirtual 256, 3) := by decide +kernel
theorem dX8_check_34 : decode cX8_check 34 = .ok (.iconst 0, 1) := by decide +kernel
theorem dX8_check_35 : decode cX8_check 35 = .ok (.istore_n 3, 1) := by decide +kernel
theorem dX8_check_36 : decode cX8_check 36 = .ok (.iconst 1, 1) := by decide +kernel
theorem dX8_check_37 : decode cX8_check 37 = .ok (.istore 4, 2) := by decide +kernel
theorem dX8_check_39 : decode cX8_check 39 = .ok (.iload 4, 2) := by decide +kernel
theorem dX8_check_41 : decode cX8_check 41 = .ok (.ifCond .eq 54, 3) := by decide +kernel
theorem dX8_check_44 : decode cX8_check 44 = .ok (.iload_n 3, 1) := by decide +kernel
theorem dX8_check_45 : decode cX8_check 45 = .ok (.iload_n 2, 1) := by decide +kernel
theorem dX8_check_46 : decode cX8_check 46 = .ok (.if_icmp .ge 49, 3) := by decide +kernel
theorem dX8_check_49 : decode cX8_check 49 = .ok (.aload_n 0, 1) := by decide +kernel
theorem dX8_check_50 : decode cX8_check 50 = .ok (.iconst 0, 1) := by decide +kernel
theorem dX8_check_51 : decode cX8_check 51 = .ok (.invokevirtual 238, 3) := by decide +kernel
theorem dX8_check_54 : decode cX8_check 54 = .ok (.aload_n 0, 1) := by decide +kernel
theorem dX8_check_55 : decode cX8_check 55 = .ok (.iload_n 1, 1) := by decide +kernel
theorem dX8_check_56 : decode cX8_check 56 = .ok (.invokevirtual 139, 3) := by decide +kernel
theorem dX8_check_59 : decode cX8_check 59 = .ok (.aload_n 0, 1) := by decide +kernel
theorem dX8_check_60 : decode cX8_check 60 = .ok (.getfield 7, 3) := by decide +kernel
theorem dX8_check_63 : decode cX8_check 63 = .ok (.sipush 213, 3) := by decide +kernel
theorem dX8_check_66 : decode cX8_check 66 = .ok (.iload_n 3, 1) := by decide +kernel
theorem dX8_check_67 : decode cX8_check 67 = .ok (.iadd, 1) := by decide +kernel
theorem dX8_check_68 : decode cX8_check 68 = .ok (.iaload, 1) := by decide +kernel
theorem dX8_check_69 : decode cX8_check 69 = .ok (.if_icmp .ne 7, 3) := by decide +kernel
theorem dX8_check_72 : decode cX8_check 72 = .ok (.iconst 1, 1) := by decide +kernel
theorem dX8_check_73 : decode cX8_check 73 = .ok (.goto 4, 3) := by decide +kernel
theorem dX8_check_76 : decode cX8_check 76 = .ok (.iconst 0, 1) := by decide +kernel
theorem dX8_check_77 : decode cX8_check 77 = .ok (.istore 4, 2) := by decide +kernel
theorem dX8_check_79 : decode cX8_check 79 = .ok (.iload_n 3, 1) := by decide +kernel
theorem dX8_check_80 : decode cX8_check 80 = .ok (.iload 4, 2) := by decide +kernel
theorem dX8_check_82 : decode cX8_check 82 = .ok (.ifCond .eq 7, 3) := by decide +kernel
theorem dX8_check_85 : decode cX8_check 85 = .ok (.iconst 1, 1) := by decide +kernel
theorem dX8_check_86 : decode cX8_check 86 = .ok (.goto 4, 3) := by decide +kernel
theorem dX8_check_89 : decode cX8_check 89 = .ok (.iconst 0, 1) := by decide +kernel
theorem dX8_check_90 : decode cX8_check 90 = .ok (.iadd, 1) := by decide +kernel
theorem dX8_check_91 : decode cX8_check 91 = .ok (.istore_n 3, 1) := by decide +kernel
theorem dX8_check_92 : decode cX8_check 92 = .ok (.goto (-53), 3) := by decide +kernel
theorem dX8_check_95 : decode cX8_check 95 = .ok (.aload_n 0, 1) := by decide +kernel
theorem dX8_check_96 : decode cX8_check 96 = .ok (.invokevirtual 259, 3) := by decide +kernel
theorem dX8_check_99 : decode cX8_check 99 = .ok (.iload 4, 2) := by decide +kernel
theorem dX8_check_101 : decode cX8_check 101 = .ok (.ifCond .eq 7, 3) := by decide +kernel
theorem dX8_check_104 : decode cX8_check 104 = .ok (.iconst 0, 1) := by decide +kernel
theorem dX8_check_105 : decode cX8_check 105 = .ok (.goto 6, 3) := by decide +kernel
theorem dX8_check_108 : decode cX8_check 108 = .ok (.iconst 1, 1) := by decide +kernel
theorem dX8_check_109 : decode cX8_check 109 = .ok (.iload_n 3, 1) := by decide +kernel
theorem dX8_check_110 : decode cX8_check 110 = .ok (.iadd, 1) := by decide +kernel
theorem dX8_check_111 : decode cX8_check 111 = .ok (.ireturn, 1) := by decide +kernel
theorem dX8_knownByAny_0 : decode cX8_knownByAny 0 = .ok (.iconst 0, 1) := by decide +kernel
theorem dX8_knownByAny_1 : decode cX8_knownByAny 1 = .ok (.istore_n 1, 1) := by decide +kernel
theorem dX8_knownByAny_2 : decode cX8_knownByAny 2 = .ok (.iconst 0, 1) := by decide +kernel
theorem dX8_knownByAny_3 : decode cX8_knownByAny 3 = .ok (.istore_n 2, 1) := by decide +kernel
theorem dX8_knownByAny_4 : decode cX8_knownByAny 4 = .ok (.iload_n 2, 1) := by decide +kernel
theorem dX8_knownByAny_5 : decode cX8_knownByAny 5 = .ok (.aload_n 0, 1) := by decide +kernel
theorem dX8_knownByAny_6 : decode cX8_knownByAny 6 = .ok (.getfield 7, 3) := by decide +kernel
theorem dX8_knownByAny_9 : decode cX8_knownByAny 9 = .ok (.iconst 0, 1) := by decide +kernel
theorem dX8_knownByAny_10 : decode cX8_knownByAny 10 = .ok (.iaload, 1) := by decide +kernel
theorem dX8_knownByAny_11 : decode cX8_knownByAny 11 = .ok (.if_icmp .ge 18, 3) := by decide +kernel
theorem dX8_knownByAny_14 : decode cX8_knownByAny 14 = .ok (.iload_n 1, 1) := by decide +kernel
theorem dX8_knownByAny_15 : decode cX8_knownByAny 15 = .ok (.aload_n 0, 1) := by decide +kernel
theorem dX8_knownByAny_16 : decode cX8_knownByAny 16 = .ok (.iload_n 2, 1) := by decide +kernel
theorem dX8_knownByAny_17 : decode cX8_knownByAny 17 = .ok (.iconst 3, 1) := by decide +kernel
theorem dX8_knownByAny_18 : decode cX8_knownByAny 18 = .ok (.invokevirtual 60, 3) := by decide +kernel
theorem dX8_knownByAny_21 : decode cX8_knownByAny 21 = .ok (.ior, 1) := by decide +kernel
theorem dX8_knownByAny_22 : decode cX8_knownByAny 22 = .ok (.istore_n 1, 1) := by decide +kernel
theorem dX8_knownByAny_23 : decode cX8_knownByAny 23 = .ok (.iinc 2 1, 3) := by decide +kernel
theorem dX8_knownByAny_26 : decode cX8_knownByAny 26 = .ok (.goto (-22), 3) := by decide +kernel
theorem dX8_knownByAny_29 : decode cX8_knownByAny 29 = .ok (.iload_n 1, 1) := by decide +kernel
theorem dX8_knownByAny_30 : decode cX8_knownByAny 30 = .ok (.ireturn, 1) := by decide +kernel
theorem dX8_count_0 : decode cX8_count 0 = .ok (.iload_n 1, 1) := by decide +kernel
theorem dX8_count_1 : decode cX8_count 1 = .ok (.tableswitch 114 0 10 #[59, 59, 59, 59, 66, 71, 78, 85, 93, 101, 106], 59) := by decide +kernel
theorem dX8_count_60 : decode cX8_count 60 = .ok (.aload_n 0, 1) := by decide +kernel
theorem dX8_count_61 : decode cX8_count 61 = .ok (.getfield 7, 3) := by decide +kernel
theorem dX8_count_64 : decode cX8_count 64 = .ok (.iload_n 1, 1) := by decide +kernel
theorem dX8_count_65 : decode cX8_count 65 = .ok (.iaload, 1) := by decide +kernel
theorem dX8_count_66 : decode cX8_count 66 = .ok (.ireturn, 1) := by decide +kernel
theorem dX8_count_67 : decode cX8_count 67 = .ok (.aload_n 0, 1) := by decide +kernel
theorem dX8_count_68 : decode cX8_count 68 = .ok (.invokevirtual 315, 3) := by decide +kernel
theorem dX8_count_71 : decode cX8_count 71 = .ok (.ireturn, 1) := by decide +kernel
theorem dX8_count_72 : decode cX8_count 72 = .ok (.aload_n 0, 1) := by decide +kernel
theorem dX8_count_73 : decode cX8_count 73 = .ok (.getfield 7, 3) := by decide +kernel
theorem dX8_count_76 : decode cX8_count 76 = .ok (.iconst 4, 1) := by decide +kernel
theorem dX8_count_77 : decode cX8_count 77 = .ok (.iaload, 1) := by decide +kernel
theorem dX8_count_78 : decode cX8_count 78 = .ok (.ireturn, 1) := by decide +kernel
theorem dX8_count_79 : decode cX8_count 79 = .ok (.aload_n 0, 1) := by decide +kernel
theorem dX8_count_80 : decode cX8_count 80 = .ok (.getfield 7, 3) := by decide +kernel
theorem dX8_count_83 : decode cX8_count 83 = .ok (.iconst 5, 1) := by decide +kernel
theorem dX8_count_84 : decode cX8_count 84 = .ok (.iaload, 1) := by decide +kernel
theorem dX8_count_85 : decode cX8_count 85 = .ok (.ireturn, 1) := by decide +kernel
theorem dX8_count_86 : decode cX8_count 86 = .ok (.aload_n 0, 1) := by decide +kernel
theorem dX8_count_87 : decode cX8_count 87 = .ok (.getfield 7, 3) := by decide +kernel
theorem dX8_count_90 : decode cX8_count 90 = .ok (.bipush 7, 2) := by decide +kernel
theorem dX8_count_92 : decode cX8_count 92 = .ok (.iaload, 1) := by decide +kernel
theorem dX8_count_93 : decode cX8_count 93 = .ok (.ireturn, 1) := by decide +kernel
theorem dX8_count_94 : decode cX8_count 94 = .ok (.aload_n 0, 1) := by decide +kernel
theorem dX8_count_95 : decode cX8_count 95 = .ok (.getfield 7, 3) := by decide +kernel
theorem dX8_count_98 : decode cX8_count 98 = .ok (.bipush 8, 2) := by decide +kernel
theorem dX8_count_100 : decode cX8_count 100 = .ok (.iaload, 1) := by decide +kernel
theorem dX8_count_101 : decode cX8_count 101 = .ok (.ireturn, 1) := by decide +kernel
theorem dX8_count_102 : decode cX8_count 102 = .ok (.aload_n 0, 1) := by decide +kernel
theorem dX8_count_103 : decode cX8_count 103 = .ok (.getfield 278, 3) := by decide +kernel
theorem dX8_count_106 : decode cX8_count 106 = .ok (.ireturn, 1) := by decide +kernel
theorem dX8_count_107 : decode cX8_count 107 = .ok (.aload_n 0, 1) := by decide +kernel
theorem dX8_count_108 : decode cX8_count 108 = .ok (.getfield 7, 3) := by decide +kernel
theorem dX8_count_111 : decode cX8_count 111 = .ok (.bipush 6, 2) := by decide +kernel
theorem dX8_count_113 : decode cX8_count 113 = .ok (.iaload, 1) := by decide +kernel
theorem dX8_count_114 : decode cX8_count 114 = .ok (.ireturn, 1) := by decide +kernel
theorem dX8_count_115 : decode cX8_count 115 = .ok (.aload_n 0, 1) := by decide +kernel
theorem dX8_count_116 : decode cX8_count 116 = .ok (.ldc 43, 2) := by decide +kernel
theorem dX8_count_118 : decode cX8_count 118 = .ok (.invokevirtual 84, 3) := by decide +kernel
theorem dX8_count_121 : decode cX8_count 121 = .ok (.ireturn, 1) := by decide +kernel
theorem dX8_told_0 : decode cX8_told 0 = .ok (.iload_n 1, 1) := by decide +kernel
theorem dX8_told_1 : decode cX8_told 1 = .ok (.i2l, 1) := by decide +kernel
theorem dX8_told_2 : decode cX8_told 2 = .ok (.lconst 1, 1) := by decide +kernel
theorem dX8_told_3 : decode cX8_told 3 = .ok (.ldc2_w 106, 3) := by decide +kernel
theorem dX8_told_6 : decode cX8_told 6 = .ok (.invokestatic 44, 3) := by decide +kernel
theorem dX8_told_9 : decode cX8_told 9 = .ok (.ifCond .eq 14, 3) := by decide +kernel
theorem dX8_told_12 : decode cX8_told 12 = .ok (.aload_n 0, 1) := by decide +kernel
theorem dX8_told_13 : decode cX8_told 13 = .ok (.getfield 19, 3) := by decide +kernel
theorem dX8_told_16 : decode cX8_told 16 = .ok (.iload_n 1, 1) := by decide +kernel
theorem dX8_told_17 : decode cX8_told 17 = .ok (.iconst 1, 1) := by decide +kernel
theorem dX8_told_18 : decode cX8_told 18 = .ok (.isub, 1) := by decide +kernel
theorem dX8_told_19 : decode cX8_told 19 = .ok (.iaload, 1) := by decide +kernel
theorem dX8_told_20 : decode cX8_told 20 = .ok (.goto 9, 3) := by decide +kernel
theorem dX8_told_23 : decode cX8_told 23 = .ok (.aload_n 0, 1) := by decide +kernel
theorem dX8_told_24 : decode cX8_told 24 = .ok (.ldc 43, 2) := by decide +kernel
theorem dX8_told_26 : decode cX8_told 26 = .ok (.invokevirtual 84, 3) := by decide +kernel
theorem dX8_told_29 : decode cX8_told 29 = .ok (.ireturn, 1) := by decide +kernel
