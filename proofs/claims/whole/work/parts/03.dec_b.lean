/-! decode rows -/
theorem dX7_init_0 : decode cX7_init 0 = .ok (.aload_n 0, 1) := by decide +kernel
theorem dX7_init_1 : decode cX7_init 1 = .ok (.invokespecial 1, 3) := by decide +kernel
theorem dX7_init_4 : decode cX7_init 4 = .ok (.aload_n 0, 1) := by decide +kernel
theorem dX7_init_5 : decode cX7_init 5 = .ok (.new 7, 3) := by decide +kernel
theorem dX7_init_8 : decode cX7_init 8 = .ok (.dup, 1) := by decide +kernel
theorem dX7_init_9 : decode cX7_init 9 = .ok (.invokespecial 9, 3) := by decide +kernel
theorem dX7_init_12 : decode cX7_init 12 = .ok (.putfield 10, 3) := by decide +kernel
theorem dX7_init_15 : decode cX7_init 15 = .ok (.aload_n 0, 1) := by decide +kernel
theorem dX7_init_16 : decode cX7_init 16 = .ok (.new 7, 3) := by decide +kernel
theorem dX7_init_19 : decode cX7_init 19 = .ok (.dup, 1) := by decide +kernel
theorem dX7_init_20 : decode cX7_init 20 = .ok (.invokespecial 9, 3) := by decide +kernel
theorem dX7_init_23 : decode cX7_init 23 = .ok (.putfield 16, 3) := by decide +kernel
theorem dX7_init_26 : decode cX7_init 26 = .ok (.aload_n 0, 1) := by decide +kernel
theorem dX7_init_27 : decode cX7_init 27 = .ok (.new 7, 3) := by decide +kernel
theorem dX7_init_30 : decode cX7_init 30 = .ok (.dup, 1) := by decide +kernel
theorem dX7_init_31 : decode cX7_init 31 = .ok (.invokespecial 9, 3) := by decide +kernel
theorem dX7_init_34 : decode cX7_init 34 = .ok (.putfield 19, 3) := by decide +kernel
theorem dX7_init_37 : decode cX7_init 37 = .ok (.aload_n 0, 1) := by decide +kernel
theorem dX7_init_38 : decode cX7_init 38 = .ok (.new 22, 3) := by decide +kernel
theorem dX7_init_41 : decode cX7_init 41 = .ok (.dup, 1) := by decide +kernel
theorem dX7_init_42 : decode cX7_init 42 = .ok (.invokespecial 24, 3) := by decide +kernel
theorem dX7_init_45 : decode cX7_init 45 = .ok (.putfield 25, 3) := by decide +kernel
theorem dX7_init_48 : decode cX7_init 48 = .ok (.aload_n 0, 1) := by decide +kernel
theorem dX7_init_49 : decode cX7_init 49 = .ok (.new 29, 3) := by decide +kernel
theorem dX7_init_52 : decode cX7_init 52 = .ok (.dup, 1) := by decide +kernel
theorem dX7_init_53 : decode cX7_init 53 = .ok (.invokespecial 31, 3) := by decide +kernel
theorem dX7_init_56 : decode cX7_init 56 = .ok (.putfield 32, 3) := by decide +kernel
theorem dX7_init_59 : decode cX7_init 59 = .ok (.aload_n 0, 1) := by decide +kernel
theorem dX7_init_60 : decode cX7_init 60 = .ok (.iconst 4, 1) := by decide +kernel
theorem dX7_init_61 : decode cX7_init 61 = .ok (.anewarray 36, 3) := by decide +kernel
theorem dX7_init_64 : decode cX7_init 64 = .ok (.putfield 38, 3) := by decide +kernel
theorem dX7_init_67 : decode cX7_init 67 = .ok (.aload_n 0, 1) := by decide +kernel
theorem dX7_init_68 : decode cX7_init 68 = .ok (.bipush 7, 2) := by decide +kernel
theorem dX7_init_70 : decode cX7_init 70 = .ok (.newarray .int, 2) := by decide +kernel
theorem dX7_init_72 : decode cX7_init 72 = .ok (.putfield 42, 3) := by decide +kernel
theorem dX7_init_75 : decode cX7_init 75 = .ok (.iconst 0, 1) := by decide +kernel
theorem dX7_init_76 : decode cX7_init 76 = .ok (.istore_n 1, 1) := by decide +kernel
theorem dX7_init_77 : decode cX7_init 77 = .ok (.iload_n 1, 1) := by decide +kernel
theorem dX7_init_78 : decode cX7_init 78 = .ok (.iconst 4, 1) := by decide +kernel
theorem dX7_init_79 : decode cX7_init 79 = .ok (.if_icmp .ge 22, 3) := by decide +kernel
theorem dX7_init_82 : decode cX7_init 82 = .ok (.aload_n 0, 1) := by decide +kernel
theorem dX7_init_83 : decode cX7_init 83 = .ok (.getfield 38, 3) := by decide +kernel
theorem dX7_init_86 : decode cX7_init 86 = .ok (.iload_n 1, 1) := by decide +kernel
theorem dX7_init_87 : decode cX7_init 87 = .ok (.new 36, 3) := by decide +kernel
theorem dX7_init_90 : decode cX7_init 90 = .ok (.dup, 1) := by decide +kernel
theorem dX7_init_91 : decode cX7_init 91 = .ok (.invokespecial 46, 3) := by decide +kernel
theorem dX7_init_94 : decode cX7_init 94 = .ok (.aastore, 1) := by decide +kernel
theorem dX7_init_95 : decode cX7_init 95 = .ok (.iinc 1 1, 3) := by decide +kernel
theorem dX7_init_98 : decode cX7_init 98 = .ok (.goto (-21), 3) := by decide +kernel
theorem dX7_init_101 : decode cX7_init 101 = .ok (.return_, 1) := by decide +kernel
theorem dX7_bunk_0 : decode cX7_bunk 0 = .ok (.iload_n 1, 1) := by decide +kernel
theorem dX7_bunk_1 : decode cX7_bunk 1 = .ok (.iconst 0, 1) := by decide +kernel
theorem dX7_bunk_2 : decode cX7_bunk 2 = .ok (.bipush 69, 2) := by decide +kernel
theorem dX7_bunk_4 : decode cX7_bunk 4 = .ok (.invokestatic 47, 3) := by decide +kernel
theorem dX7_bunk_7 : decode cX7_bunk 7 = .ok (.ifCond .ne 9, 3) := by decide +kernel
theorem dX7_bunk_10 : decode cX7_bunk 10 = .ok (.aload_n 0, 1) := by decide +kernel
theorem dX7_bunk_11 : decode cX7_bunk 11 = .ok (.iconst 1, 1) := by decide +kernel
theorem dX7_bunk_12 : decode cX7_bunk 12 = .ok (.invokevirtual 51, 3) := by decide +kernel
theorem dX7_bunk_15 : decode cX7_bunk 15 = .ok (.ireturn, 1) := by decide +kernel
theorem dX7_bunk_16 : decode cX7_bunk 16 = .ok (.aload_n 0, 1) := by decide +kernel
theorem dX7_bunk_17 : decode cX7_bunk 17 = .ok (.getfield 10, 3) := by decide +kernel
theorem dX7_bunk_20 : decode cX7_bunk 20 = .ok (.getfield 55, 3) := by decide +kernel
theorem dX7_bunk_23 : decode cX7_bunk 23 = .ok (.bipush 6, 2) := by decide +kernel
theorem dX7_bunk_25 : decode cX7_bunk 25 = .ok (.if_icmp .lt 9, 3) := by decide +kernel
theorem dX7_bunk_28 : decode cX7_bunk 28 = .ok (.aload_n 0, 1) := by decide +kernel
theorem dX7_bunk_29 : decode cX7_bunk 29 = .ok (.iconst 4, 1) := by decide +kernel
theorem dX7_bunk_30 : decode cX7_bunk 30 = .ok (.invokevirtual 51, 3) := by decide +kernel
theorem dX7_bunk_33 : decode cX7_bunk 33 = .ok (.ireturn, 1) := by decide +kernel
theorem dX7_bunk_34 : decode cX7_bunk 34 = .ok (.aload_n 0, 1) := by decide +kernel
theorem dX7_bunk_35 : decode cX7_bunk 35 = .ok (.getfield 10, 3) := by decide +kernel
theorem dX7_bunk_38 : decode cX7_bunk 38 = .ok (.iload_n 1, 1) := by decide +kernel
theorem dX7_bunk_39 : decode cX7_bunk 39 = .ok (.invokevirtual 59, 3) := by decide +kernel
theorem dX7_bunk_42 : decode cX7_bunk 42 = .ok (.ireturn, 1) := by decide +kernel
theorem dX7_bunkIs_0 : decode cX7_bunkIs 0 = .ok (.aload_n 0, 1) := by decide +kernel
theorem dX7_bunkIs_1 : decode cX7_bunkIs 1 = .ok (.iload_n 1, 1) := by decide +kernel
theorem dX7_bunkIs_2 : decode cX7_bunkIs 2 = .ok (.invokevirtual 62, 3) := by decide +kernel
theorem dX7_bunkIs_5 : decode cX7_bunkIs 5 = .ok (.ifCond .eq 13, 3) := by decide +kernel
theorem dX7_bunkIs_8 : decode cX7_bunkIs 8 = .ok (.iload_n 2, 1) := by decide +kernel
theorem dX7_bunkIs_9 : decode cX7_bunkIs 9 = .ok (.iconst 0, 1) := by decide +kernel
theorem dX7_bunkIs_10 : decode cX7_bunkIs 10 = .ok (.bipush 23, 2) := by decide +kernel
theorem dX7_bunkIs_12 : decode cX7_bunkIs 12 = .ok (.invokestatic 47, 3) := by decide +kernel
theorem dX7_bunkIs_15 : decode cX7_bunkIs 15 = .ok (.ifCond .ne 9, 3) := by decide +kernel
theorem dX7_bunkIs_18 : decode cX7_bunkIs 18 = .ok (.aload_n 0, 1) := by decide +kernel
theorem dX7_bunkIs_19 : decode cX7_bunkIs 19 = .ok (.iconst 1, 1) := by decide +kernel
theorem dX7_bunkIs_20 : decode cX7_bunkIs 20 = .ok (.invokevirtual 51, 3) := by decide +kernel
theorem dX7_bunkIs_23 : decode cX7_bunkIs 23 = .ok (.ireturn, 1) := by decide +kernel
theorem dX7_bunkIs_24 : decode cX7_bunkIs 24 = .ok (.aload_n 0, 1) := by decide +kernel
theorem dX7_bunkIs_25 : decode cX7_bunkIs 25 = .ok (.getfield 10, 3) := by decide +kernel
theorem dX7_bunkIs_28 : decode cX7_bunkIs 28 = .ok (.iload_n 1, 1) := by decide +kernel
theorem dX7_bunkIs_29 : decode cX7_bunkIs 29 = .ok (.iload_n 2, 1) := by decide +kernel
theorem dX7_bunkIs_30 : decode cX7_bunkIs 30 = .ok (.invokevirtual 66, 3) := by decide +kernel
theorem dX7_bunkIs_33 : decode cX7_bunkIs 33 = .ok (.ireturn, 1) := by decide +kernel
theorem dX7_as_0 : decode cX7_as 0 = .ok (.aload_n 0, 1) := by decide +kernel
theorem dX7_as_1 : decode cX7_as 1 = .ok (.iload_n 1, 1) := by decide +kernel
theorem dX7_as_2 : decode cX7_as 2 = .ok (.invokevirtual 62, 3) := by decide +kernel
theorem dX7_as_5 : decode cX7_as 5 = .ok (.ifCond .eq 13, 3) := by decide +kernel
theorem dX7_as_8 : decode cX7_as 8 = .ok (.iload_n 2, 1) := by decide +kernel
theorem dX7_as_9 : decode cX7_as 9 = .ok (.iconst 0, 1) := by decide +kernel
theorem dX7_as_10 : decode cX7_as 10 = .ok (.bipush 6, 2) := by decide +kernel
theorem dX7_as_12 : decode cX7_as 12 = .ok (.invokestatic 47, 3) := by decide +kernel
theorem dX7_as_15 : decode cX7_as 15 = .ok (.ifCond .ne 9, 3) := by decide +kernel
theorem dX7_as_18 : decode cX7_as 18 = .ok (.aload_n 0, 1) := by decide +kernel
theorem dX7_as_19 : decode cX7_as 19 = .ok (.iconst 1, 1) := by decide +kernel
theorem dX7_as_20 : decode cX7_as 20 = .ok (.invokevirtual 51, 3) := by decide +kernel
theorem dX7_as_23 : decode cX7_as 23 = .ok (.ireturn, 1) := by decide +kernel
theorem dX7_as_24 : decode cX7_as 24 = .ok (.aload_n 0, 1) := by decide +kernel
theorem dX7_as_25 : decode cX7_as 25 = .ok (.getfield 10, 3) := by decide +kernel
theorem dX7_as_28 : decode cX7_as 28 = .ok (.getfield 70, 3) := by decide +kernel
theorem dX7_as_31 : decode cX7_as 31 = .ok (.iload_n 1, 1) := by decide +kernel
theorem dX7_as_32 : decode cX7_as 32 = .ok (.aaload, 1) := by decide +kernel
theorem dX7_as_33 : decode cX7_as 33 = .ok (.iload_n 2, 1) := by decide +kernel
theorem dX7_as_34 : decode cX7_as 34 = .ok (.invokevirtual 74, 3) := by decide +kernel
theorem dX7_as_37 : decode cX7_as 37 = .ok (.ifCond .ne 9, 3) := by decide +kernel
theorem dX7_as_40 : decode cX7_as 40 = .ok (.aload_n 0, 1) := by decide +kernel
theorem dX7_as_41 : decode cX7_as 41 = .ok (.iconst 5, 1) := by decide +kernel
theorem dX7_as_42 : decode cX7_as 42 = .ok (.invokevirtual 51, 3) := by decide +kernel
theorem dX7_as_45 : decode cX7_as 45 = .ok (.ireturn, 1) := by decide +kernel
theorem dX7_as_46 : decode cX7_as 46 = .ok (.aload_n 0, 1) := by decide +kernel
theorem dX7_as_47 : decode cX7_as 47 = .ok (.getfield 10, 3) := by decide +kernel
theorem dX7_as_50 : decode cX7_as 50 = .ok (.getfield 70, 3) := by decide +kernel
theorem dX7_as_53 : decode cX7_as 53 = .ok (.iload_n 1, 1) := by decide +kernel
theorem dX7_as_54 : decode cX7_as 54 = .ok (.aaload, 1) := by decide +kernel
theorem dX7_as_55 : decode cX7_as 55 = .ok (.getfield 79, 3) := by decide +kernel
theorem dX7_as_58 : decode cX7_as 58 = .ok (.ireturn, 1) := by decide +kernel
theorem dX7_set_0 : decode cX7_set 0 = .ok (.aload_n 0, 1) := by decide +kernel
theorem dX7_set_1 : decode cX7_set 1 = .ok (.iload_n 1, 1) := by decide +kernel
theorem dX7_set_2 : decode cX7_set 2 = .ok (.invokevirtual 62, 3) := by decide +kernel
theorem dX7_set_5 : decode cX7_set 5 = .ok (.ifCond .eq 11, 3) := by decide +kernel
theorem dX7_set_8 : decode cX7_set 8 = .ok (.iload_n 2, 1) := by decide +kernel
theorem dX7_set_9 : decode cX7_set 9 = .ok (.iload_n 3, 1) := by decide +kernel
theorem dX7_set_10 : decode cX7_set 10 = .ok (.invokestatic 82, 3) := by decide +kernel
theorem dX7_set_13 : decode cX7_set 13 = .ok (.ifCond .ne 9, 3) := by decide +kernel
theorem dX7_set_16 : decode cX7_set 16 = .ok (.aload_n 0, 1) := by decide +kernel
theorem dX7_set_17 : decode cX7_set 17 = .ok (.iconst 1, 1) := by decide +kernel
theorem dX7_set_18 : decode cX7_set 18 = .ok (.invokevirtual 51, 3) := by decide +kernel
theorem dX7_set_21 : decode cX7_set 21 = .ok (.ireturn, 1) := by decide +kernel
theorem dX7_set_22 : decode cX7_set 22 = .ok (.aload_n 0, 1) := by decide +kernel
theorem dX7_set_23 : decode cX7_set 23 = .ok (.getfield 10, 3) := by decide +kernel
theorem dX7_set_26 : decode cX7_set 26 = .ok (.getfield 70, 3) := by decide +kernel
theorem dX7_set_29 : decode cX7_set 29 = .ok (.iload_n 1, 1) := by decide +kernel
theorem dX7_set_30 : decode cX7_set 30 = .ok (.aaload, 1) := by decide +kernel
theorem dX7_set_31 : decode cX7_set 31 = .ok (.astore 4, 2) := by decide +kernel
theorem dX7_set_33 : decode cX7_set 33 = .ok (.aload_n 0, 1) := by decide +kernel
theorem dX7_set_34 : decode cX7_set 34 = .ok (.getfield 10, 3) := by decide +kernel
theorem dX7_set_37 : decode cX7_set 37 = .ok (.iload_n 1, 1) := by decide +kernel
theorem dX7_set_38 : decode cX7_set 38 = .ok (.iload_n 2, 1) := by decide +kernel
theorem dX7_set_39 : decode cX7_set 39 = .ok (.invokevirtual 66, 3) := by decide +kernel
theorem dX7_set_42 : decode cX7_set 42 = .ok (.istore 5, 2) := by decide +kernel
theorem dX7_set_44 : decode cX7_set 44 = .ok (.iload_n 2, 1) := by decide +kernel
theorem dX7_set_45 : decode cX7_set 45 = .ok (.ifCond .ne 12, 3) := by decide +kernel
theorem dX7_set_48 : decode cX7_set 48 = .ok (.aload 4, 2) := by decide +kernel
theorem dX7_set_50 : decode cX7_set 50 = .ok (.iload_n 3, 1) := by decide +kernel
theorem dX7_set_51 : decode cX7_set 51 = .ok (.putfield 86, 3) := by decide +kernel
theorem dX7_set_54 : decode cX7_set 54 = .ok (.goto 23, 3) := by decide +kernel
theorem dX7_set_57 : decode cX7_set 57 = .ok (.iload_n 2, 1) := by decide +kernel
theorem dX7_set_58 : decode cX7_set 58 = .ok (.iconst 1, 1) := by decide +kernel
theorem dX7_set_59 : decode cX7_set 59 = .ok (.if_icmp .ne 12, 3) := by decide +kernel
theorem dX7_set_62 : decode cX7_set 62 = .ok (.aload 4, 2) := by decide +kernel
theorem dX7_set_64 : decode cX7_set 64 = .ok (.iload_n 3, 1) := by decide +kernel
theorem dX7_set_65 : decode cX7_set 65 = .ok (.putfield 89, 3) := by decide +kernel
theorem dX7_set_68 : decode cX7_set 68 = .ok (.goto 9, 3) := by decide +kernel
theorem dX7_set_71 : decode cX7_set 71 = .ok (.aload 4, 2) := by decide +kernel
theorem dX7_set_73 : decode cX7_set 73 = .ok (.iload_n 3, 1) := by decide +kernel
theorem dX7_set_74 : decode cX7_set 74 = .ok (.putfield 92, 3) := by decide +kernel
theorem dX7_set_77 : decode cX7_set 77 = .ok (.iload 5, 2) := by decide +kernel
theorem dX7_set_79 : decode cX7_set 79 = .ok (.ireturn, 1) := by decide +kernel
theorem dX7_know_0 : decode cX7_know 0 = .ok (.aload_n 0, 1) := by decide +kernel
theorem dX7_know_1 : decode cX7_know 1 = .ok (.iload_n 1, 1) := by decide +kernel
theorem dX7_know_2 : decode cX7_know 2 = .ok (.invokevirtual 62, 3) := by decide +kernel
theorem dX7_know_5 : decode cX7_know 5 = .ok (.ifCond .eq 21, 3) := by decide +kernel
theorem dX7_know_8 : decode cX7_know 8 = .ok (.iload_n 2, 1) := by decide +kernel
theorem dX7_know_9 : decode cX7_know 9 = .ok (.invokestatic 95, 3) := by decide +kernel
theorem dX7_know_12 : decode cX7_know 12 = .ok (.ifCond .eq 14, 3) := by decide +kernel
theorem dX7_know_15 : decode cX7_know 15 = .ok (.iload_n 3, 1) := by decide +kernel
theorem dX7_know_16 : decode cX7_know 16 = .ok (.iconst (-1), 1) := by decide +kernel
theorem dX7_know_17 : decode cX7_know 17 = .ok (.sipush 999, 3) := by decide +kernel
theorem dX7_know_20 : decode cX7_know 20 = .ok (.invokestatic 47, 3) := by decide +kernel
theorem dX7_know_23 : decode cX7_know 23 = .ok (.ifCond .ne 9, 3) := by decide +kernel
theorem dX7_know_26 : decode cX7_know 26 = .ok (.aload_n 0, 1) := by decide +kernel
theorem dX7_know_27 : decode cX7_know 27 = .ok (.iconst 1, 1) := by decide +kernel
theorem dX7_know_28 : decode cX7_know 28 = .ok (.invokevirtual 51, 3) := by decide +kernel
theorem dX7_know_31 : decode cX7_know 31 = .ok (.ireturn, 1) := by decide +kernel
theorem dX7_know_32 : decode cX7_know 32 = .ok (.aload_n 0, 1) := by decide +kernel
theorem dX7_know_33 : decode cX7_know 33 = .ok (.getfield 10, 3) := by decide +kernel
theorem dX7_know_36 : decode cX7_know 36 = .ok (.getfield 70, 3) := by decide +kernel
theorem dX7_know_39 : decode cX7_know 39 = .ok (.iload_n 1, 1) := by decide +kernel
theorem dX7_know_40 : decode cX7_know 40 = .ok (.aaload, 1) := by decide +kernel
theorem dX7_know_41 : decode cX7_know 41 = .ok (.astore 4, 2) := by decide +kernel
theorem dX7_know_43 : decode cX7_know 43 = .ok (.aload 4, 2) := by decide +kernel
theorem dX7_know_45 : decode cX7_know 45 = .ok (.iload_n 2, 1) := by decide +kernel
theorem dX7_know_46 : decode cX7_know 46 = .ok (.invokevirtual 98, 3) := by decide +kernel
theorem dX7_know_49 : decode cX7_know 49 = .ok (.ifCond .eq 13, 3) := by decide +kernel
theorem dX7_know_52 : decode cX7_know 52 = .ok (.aload 4, 2) := by decide +kernel
theorem dX7_know_54 : decode cX7_know 54 = .ok (.getfield 101, 3) := by decide +kernel
theorem dX7_know_57 : decode cX7_know 57 = .ok (.iload_n 2, 1) := by decide +kernel
theorem dX7_know_58 : decode cX7_know 58 = .ok (.iaload, 1) := by decide +kernel
theorem dX7_know_59 : decode cX7_know 59 = .ok (.goto 4, 3) := by decide +kernel
theorem dX7_know_62 : decode cX7_know 62 = .ok (.iconst (-1), 1) := by decide +kernel
theorem dX7_know_63 : decode cX7_know 63 = .ok (.istore 5, 2) := by decide +kernel
theorem dX7_know_65 : decode cX7_know 65 = .ok (.iload_n 3, 1) := by decide +kernel
theorem dX7_know_66 : decode cX7_know 66 = .ok (.ifCond .ge 12, 3) := by decide +kernel
theorem dX7_know_69 : decode cX7_know 69 = .ok (.aload 4, 2) := by decide +kernel
theorem dX7_know_71 : decode cX7_know 71 = .ok (.iload_n 2, 1) := by decide +kernel
theorem dX7_know_72 : decode cX7_know 72 = .ok (.invokevirtual 104, 3) := by decide +kernel
theorem dX7_know_75 : decode cX7_know 75 = .ok (.goto 10, 3) := by decide +kernel
theorem dX7_know_78 : decode cX7_know 78 = .ok (.aload 4, 2) := by decide +kernel
theorem dX7_know_80 : decode cX7_know 80 = .ok (.iload_n 2, 1) := by decide +kernel
theorem dX7_know_81 : decode cX7_know 81 = .ok (.iload_n 3, 1) := by decide +kernel
theorem dX7_know_82 : decode cX7_know 82 = .ok (.invokevirtual 108, 3) := by decide +kernel
theorem dX7_know_85 : decode cX7_know 85 = .ok (.iload 5, 2) := by decide +kernel
theorem dX7_know_87 : decode cX7_know 87 = .ok (.ireturn, 1) := by decide +kernel
theorem dX7_roster_0 : decode cX7_roster 0 = .ok (.iload_n 1, 1) := by decide +kernel
theorem dX7_roster_1 : decode cX7_roster 1 = .ok (.iload_n 2, 1) := by decide +kernel
theorem dX7_roster_2 : decode cX7_roster 2 = .ok (.invokestatic 112, 3) := by decide +kernel
theorem dX7_roster_5 : decode cX7_roster 5 = .ok (.ifCond .ne 9, 3) := by decide +kernel
theorem dX7_roster_8 : decode cX7_roster 8 = .ok (.aload_n 0, 1) := by decide +kernel
theorem dX7_roster_9 : decode cX7_roster 9 = .ok (.iconst 1, 1) := by decide +kernel
theorem dX7_roster_10 : decode cX7_roster 10 = .ok (.invokevirtual 51, 3) := by decide +kernel
theorem dX7_roster_13 : decode cX7_roster 13 = .ok (.ireturn, 1) := by decide +kernel
theorem dX7_roster_14 : decode cX7_roster 14 = .ok (.aload_n 0, 1) := by decide +kernel
theorem dX7_roster_15 : decode cX7_roster 15 = .ok (.getfield 10, 3) := by decide +kernel
theorem dX7_roster_18 : decode cX7_roster 18 = .ok (.getfield 115, 3) := by decide +kernel
theorem dX7_roster_21 : decode cX7_roster 21 = .ok (.bipush 12, 2) := by decide +kernel
theorem dX7_roster_23 : decode cX7_roster 23 = .ok (.if_icmp .lt 9, 3) := by decide +kernel
theorem dX7_roster_26 : decode cX7_roster 26 = .ok (.aload_n 0, 1) := by decide +kernel
theorem dX7_roster_27 : decode cX7_roster 27 = .ok (.iconst 4, 1) := by decide +kernel
theorem dX7_roster_28 : decode cX7_roster 28 = .ok (.invokevirtual 51, 3) := by decide +kernel
theorem dX7_roster_31 : decode cX7_roster 31 = .ok (.ireturn, 1) := by decide +kernel
theorem dX7_roster_32 : decode cX7_roster 32 = .ok (.aload_n 0, 1) := by decide +kernel
theorem dX7_roster_33 : decode cX7_roster 33 = .ok (.getfield 10, 3) := by decide +kernel
theorem dX7_roster_36 : decode cX7_roster 36 = .ok (.iload_n 1, 1) := by decide +kernel
theorem dX7_roster_37 : decode cX7_roster 37 = .ok (.iload_n 2, 1) := by decide +kernel
theorem dX7_roster_38 : decode cX7_roster 38 = .ok (.invokevirtual 118, 3) := by decide +kernel
theorem dX7_roster_41 : decode cX7_roster 41 = .ok (.ireturn, 1) := by decide +kernel
theorem dX7_book_0 : decode cX7_book 0 = .ok (.iload_n 1, 1) := by decide +kernel
theorem dX7_book_1 : decode cX7_book 1 = .ok (.iconst 0, 1) := by decide +kernel
theorem dX7_book_2 : decode cX7_book 2 = .ok (.bipush 63, 2) := by decide +kernel
theorem dX7_book_4 : decode cX7_book 4 = .ok (.invokestatic 47, 3) := by decide +kernel
theorem dX7_book_7 : decode cX7_book 7 = .ok (.ifCond .ne 9, 3) := by decide +kernel
theorem dX7_book_10 : decode cX7_book 10 = .ok (.aload_n 0, 1) := by decide +kernel
theorem dX7_book_11 : decode cX7_book 11 = .ok (.iconst 1, 1) := by decide +kernel
theorem dX7_book_12 : decode cX7_book 12 = .ok (.invokevirtual 51, 3) := by decide +kernel
theorem dX7_book_15 : decode cX7_book 15 = .ok (.ireturn, 1) := by decide +kernel
theorem dX7_book_16 : decode cX7_book 16 = .ok (.aload_n 0, 1) := by decide +kernel
theorem dX7_book_17 : decode cX7_book 17 = .ok (.getfield 10, 3) := by decide +kernel
theorem dX7_book_20 : decode cX7_book 20 = .ok (.getfield 121, 3) := by decide +kernel
theorem dX7_book_23 : decode cX7_book 23 = .ok (.istore_n 2, 1) := by decide +kernel
theorem dX7_book_24 : decode cX7_book 24 = .ok (.aload_n 0, 1) := by decide +kernel
theorem dX7_book_25 : decode cX7_book 25 = .ok (.getfield 10, 3) := by decide +kernel
theorem dX7_book_28 : decode cX7_book 28 = .ok (.iload_n 1, 1) := by decide +kernel
theorem dX7_book_29 : decode cX7_book 29 = .ok (.putfield 121, 3) := by decide +kernel
theorem dX7_book_32 : decode cX7_book 32 = .ok (.iload_n 2, 1) := by decide +kernel
theorem dX7_book_33 : decode cX7_book 33 = .ok (.ireturn, 1) := by decide +kernel
theorem dX7_task_0 : decode cX7_task 0 = .ok (.iload_n 1, 1) := by decide +kernel
theorem dX7_task_1 : decode cX7_task 1 = .ok (.iconst 0, 1) := by decide +kernel
theorem dX7_task_2 : decode cX7_task 2 = .ok (.iconst 3, 1) := by decide +kernel
theorem dX7_task_3 : decode cX7_task 3 = .ok (.invokestatic 47, 3) := by decide +kernel
theorem dX7_task_6 : decode cX7_task 6 = .ok (.ifCond .eq 20, 3) := by decide +kernel
theorem dX7_task_9 : decode cX7_task 9 = .ok (.iload_n 2, 1) := by decide +kernel
theorem dX7_task_10 : decode cX7_task 10 = .ok (.invokestatic 95, 3) := by decide +kernel
theorem dX7_task_13 : decode cX7_task 13 = .ok (.ifCond .eq 13, 3) := by decide +kernel
theorem dX7_task_16 : decode cX7_task 16 = .ok (.iload_n 3, 1) := by decide +kernel
theorem dX7_task_17 : decode cX7_task 17 = .ok (.iconst 0, 1) := by decide +kernel
theorem dX7_task_18 : decode cX7_task 18 = .ok (.bipush 6, 2) := by decide +kernel
theorem dX7_task_20 : decode cX7_task 20 = .ok (.invokestatic 47, 3) := by decide +kernel
theorem dX7_task_23 : decode cX7_task 23 = .ok (.ifCond .ne 9, 3) := by decide +kernel
theorem dX7_task_26 : decode cX7_task 26 = .ok (.aload_n 0, 1) := by decide +kernel
theorem dX7_task_27 : decode cX7_task 27 = .ok (.iconst 1, 1) := by decide +kernel
theorem dX7_task_28 : decode cX7_task 28 = .ok (.invokevirtual 51, 3) := by decide +kernel
theorem dX7_task_31 : decode cX7_task 31 = .ok (.ireturn, 1) := by decide +kernel
theorem dX7_task_32 : decode cX7_task 32 = .ok (.aload_n 0, 1) := by decide +kernel
theorem dX7_task_33 : decode cX7_task 33 = .ok (.getfield 10, 3) := by decide +kernel
theorem dX7_task_36 : decode cX7_task 36 = .ok (.getfield 124, 3) := by decide +kernel
theorem dX7_task_39 : decode cX7_task 39 = .ok (.iload_n 1, 1) := by decide +kernel
theorem dX7_task_40 : decode cX7_task 40 = .ok (.aaload, 1) := by decide +kernel
theorem dX7_task_41 : decode cX7_task 41 = .ok (.astore 4, 2) := by decide +kernel
theorem dX7_task_43 : decode cX7_task 43 = .ok (.bipush 10, 2) := by decide +kernel
theorem dX7_task_45 : decode cX7_task 45 = .ok (.aload 4, 2) := by decide +kernel
theorem dX7_task_47 : decode cX7_task 47 = .ok (.getfield 128, 3) := by decide +kernel
theorem dX7_task_50 : decode cX7_task 50 = .ok (.imul, 1) := by decide +kernel
theorem dX7_task_51 : decode cX7_task 51 = .ok (.aload 4, 2) := by decide +kernel
theorem dX7_task_53 : decode cX7_task 53 = .ok (.getfield 133, 3) := by decide +kernel
theorem dX7_task_56 : decode cX7_task 56 = .ok (.iadd, 1) := by decide +kernel
theorem dX7_task_57 : decode cX7_task 57 = .ok (.istore 5, 2) := by decide +kernel
theorem dX7_task_59 : decode cX7_task 59 = .ok (.aload 4, 2) := by decide +kernel
theorem dX7_task_61 : decode cX7_task 61 = .ok (.iload_n 2, 1) := by decide +kernel
theorem dX7_task_62 : decode cX7_task 62 = .ok (.putfield 128, 3) := by decide +kernel
theorem dX7_task_65 : decode cX7_task 65 = .ok (.aload 4, 2) := by decide +kernel
theorem dX7_task_67 : decode cX7_task 67 = .ok (.iload_n 3, 1) := by decide +kernel
theorem dX7_task_68 : decode cX7_task 68 = .ok (.putfield 133, 3) := by decide +kernel
theorem dX7_task_71 : decode cX7_task 71 = .ok (.iload 5, 2) := by decide +kernel
theorem dX7_task_73 : decode cX7_task 73 = .ok (.ireturn, 1) := by decide +kernel
theorem dX7_taskIs_0 : decode cX7_taskIs 0 = .ok (.iload_n 1, 1) := by decide +kernel
theorem dX7_taskIs_1 : decode cX7_taskIs 1 = .ok (.iconst 0, 1) := by decide +kernel
theorem dX7_taskIs_2 : decode cX7_taskIs 2 = .ok (.iconst 3, 1) := by decide +kernel
theorem dX7_taskIs_3 : decode cX7_taskIs 3 = .ok (.invokestatic 47, 3) := by decide +kernel
theorem dX7_taskIs_6 : decode cX7_taskIs 6 = .ok (.ifCond .eq 12, 3) := by decide +kernel
theorem dX7_taskIs_9 : decode cX7_taskIs 9 = .ok (.iload_n 2, 1) := by decide +kernel
theorem dX7_taskIs_10 : decode cX7_taskIs 10 = .ok (.iconst 0, 1) := by decide +kernel
theorem dX7_taskIs_11 : decode cX7_taskIs 11 = .ok (.iconst 4, 1) := by decide +kernel
theorem dX7_taskIs_12 : decode cX7_taskIs 12 = .ok (.invokestatic 47, 3) := by decide +kernel
theorem dX7_taskIs_15 : decode cX7_taskIs 15 = .ok (.ifCond .ne 9, 3) := by decide +kernel
theorem dX7_taskIs_18 : decode cX7_taskIs 18 = .ok (.aload_n 0, 1) := by decide +kernel
theorem dX7_taskIs_19 : decode cX7_taskIs 19 = .ok (.iconst 1, 1) := by decide +kernel
theorem dX7_taskIs_20 : decode cX7_taskIs 20 = .ok (.invokevirtual 51, 3) := by decide +kernel
theorem dX7_taskIs_23 : decode cX7_taskIs 23 = .ok (.ireturn, 1) := by decide +kernel
theorem dX7_taskIs_24 : decode cX7_taskIs 24 = .ok (.aload_n 0, 1) := by decide +kernel
theorem dX7_taskIs_25 : decode cX7_taskIs 25 = .ok (.getfield 10, 3) := by decide +kernel
theorem dX7_taskIs_28 : decode cX7_taskIs 28 = .ok (.iload_n 1, 1) := by decide +kernel
theorem dX7_taskIs_29 : decode cX7_taskIs 29 = .ok (.iload_n 2, 1) := by decide +kernel
theorem dX7_taskIs_30 : decode cX7_taskIs 30 = .ok (.invokevirtual 136, 3) := by decide +kernel
theorem dX7_taskIs_33 : decode cX7_taskIs 33 = .ok (.ireturn, 1) := by decide +kernel
theorem dX7_feed_0 : decode cX7_feed 0 = .ok (.iload_n 3, 1) := by decide +kernel
theorem dX7_feed_1 : decode cX7_feed 1 = .ok (.iconst 1, 1) := by decide +kernel
theorem dX7_feed_2 : decode cX7_feed 2 = .ok (.bipush 8, 2) := by decide +kernel
theorem dX7_feed_4 : decode cX7_feed 4 = .ok (.invokestatic 47, 3) := by decide +kernel
theorem dX7_feed_7 : decode cX7_feed 7 = .ok (.ifCond .ne 9, 3) := by decide +kernel
theorem dX7_feed_10 : decode cX7_feed 10 = .ok (.aload_n 0, 1) := by decide +kernel
theorem dX7_feed_11 : decode cX7_feed 11 = .ok (.iconst 1, 1) := by decide +kernel
theorem dX7_feed_12 : decode cX7_feed 12 = .ok (.invokevirtual 51, 3) := by decide +kernel
theorem dX7_feed_15 : decode cX7_feed 15 = .ok (.ireturn, 1) := by decide +kernel
theorem dX7_feed_16 : decode cX7_feed 16 = .ok (.aload_n 0, 1) := by decide +kernel
theorem dX7_feed_17 : decode cX7_feed 17 = .ok (.getfield 10, 3) := by decide +kernel
theorem dX7_feed_20 : decode cX7_feed 20 = .ok (.getfield 139, 3) := by decide +kernel
theorem dX7_feed_23 : decode cX7_feed 23 = .ok (.iload_n 3, 1) := by decide +kernel
theorem dX7_feed_24 : decode cX7_feed 24 = .ok (.iadd, 1) := by decide +kernel
theorem dX7_feed_25 : decode cX7_feed 25 = .ok (.bipush 60, 2) := by decide +kernel
theorem dX7_feed_27 : decode cX7_feed 27 = .ok (.if_icmp .le 9, 3) := by decide +kernel
theorem dX7_feed_30 : decode cX7_feed 30 = .ok (.aload_n 0, 1) := by decide +kernel
theorem dX7_feed_31 : decode cX7_feed 31 = .ok (.iconst 4, 1) := by decide +kernel
theorem dX7_feed_32 : decode cX7_feed 32 = .ok (.invokevirtual 51, 3) := by decide +kernel
theorem dX7_feed_35 : decode cX7_feed 35 = .ok (.ireturn, 1) := by decide +kernel
theorem dX7_feed_36 : decode cX7_feed 36 = .ok (.iconst 0, 1) := by decide +kernel
theorem dX7_feed_37 : decode cX7_feed 37 = .ok (.istore 4, 2) := by decide +kernel
theorem dX7_feed_39 : decode cX7_feed 39 = .ok (.iload 4, 2) := by decide +kernel
theorem dX7_feed_41 : decode cX7_feed 41 = .ok (.iload_n 3, 1) := by decide +kernel
theorem dX7_feed_42 : decode cX7_feed 42 = .ok (.if_icmp .ge 46, 3) := by decide +kernel
theorem dX7_feed_45 : decode cX7_feed 45 = .ok (.aload_n 0, 1) := by decide +kernel
theorem dX7_feed_46 : decode cX7_feed 46 = .ok (.getfield 10, 3) := by decide +kernel
theorem dX7_feed_49 : decode cX7_feed 49 = .ok (.getfield 142, 3) := by decide +kernel
theorem dX7_feed_52 : decode cX7_feed 52 = .ok (.aload_n 0, 1) := by decide +kernel
theorem dX7_feed_53 : decode cX7_feed 53 = .ok (.getfield 10, 3) := by decide +kernel
theorem dX7_feed_56 : decode cX7_feed 56 = .ok (.getfield 139, 3) := by decide +kernel
theorem dX7_feed_59 : decode cX7_feed 59 = .ok (.lload_n 1, 1) := by decide +kernel
theorem dX7_feed_60 : decode cX7_feed 60 = .ok (.bipush 8, 2) := by decide +kernel
theorem dX7_feed_62 : decode cX7_feed 62 = .ok (.iload 4, 2) := by decide +kernel
theorem dX7_feed_64 : decode cX7_feed 64 = .ok (.imul, 1) := by decide +kernel
theorem dX7_feed_65 : decode cX7_feed 65 = .ok (.lushr, 1) := by decide +kernel
theorem dX7_feed_66 : decode cX7_feed 66 = .ok (.l2i, 1) := by decide +kernel
theorem dX7_feed_67 : decode cX7_feed 67 = .ok (.i2b, 1) := by decide +kernel
theorem dX7_feed_68 : decode cX7_feed 68 = .ok (.bastore, 1) := by decide +kernel
theorem dX7_feed_69 : decode cX7_feed 69 = .ok (.aload_n 0, 1) := by decide +kernel
theorem dX7_feed_70 : decode cX7_feed 70 = .ok (.getfield 10, 3) := by decide +kernel
theorem dX7_feed_73 : decode cX7_feed 73 = .ok (.dup, 1) := by decide +kernel
theorem dX7_feed_74 : decode cX7_feed 74 = .ok (.getfield 139, 3) := by decide +kernel
theorem dX7_feed_77 : decode cX7_feed 77 = .ok (.iconst 1, 1) := by decide +kernel
theorem dX7_feed_78 : decode cX7_feed 78 = .ok (.iadd, 1) := by decide +kernel
theorem dX7_feed_79 : decode cX7_feed 79 = .ok (.putfield 139, 3) := by decide +kernel
theorem dX7_feed_82 : decode cX7_feed 82 = .ok (.iinc 4 1, 3) := by decide +kernel
theorem dX7_feed_85 : decode cX7_feed 85 = .ok (.goto (-46), 3) := by decide +kernel
theorem dX7_feed_88 : decode cX7_feed 88 = .ok (.aload_n 0, 1) := by decide +kernel
theorem dX7_feed_89 : decode cX7_feed 89 = .ok (.getfield 10, 3) := by decide +kernel
theorem dX7_feed_92 : decode cX7_feed 92 = .ok (.getfield 139, 3) := by decide +kernel
theorem dX7_feed_95 : decode cX7_feed 95 = .ok (.ireturn, 1) := by decide +kernel
theorem dX7_text_0 : decode cX7_text 0 = .ok (.iload_n 1, 1) := by decide +kernel
theorem dX7_text_1 : decode cX7_text 1 = .ok (.iconst 0, 1) := by decide +kernel
theorem dX7_text_2 : decode cX7_text 2 = .ok (.iconst 1, 1) := by decide +kernel
theorem dX7_text_3 : decode cX7_text 3 = .ok (.invokestatic 47, 3) := by decide +kernel
theorem dX7_text_6 : decode cX7_text 6 = .ok (.ifCond .ne 9, 3) := by decide +kernel
theorem dX7_text_9 : decode cX7_text 9 = .ok (.aload_n 0, 1) := by decide +kernel
theorem dX7_text_10 : decode cX7_text 10 = .ok (.iconst 1, 1) := by decide +kernel
theorem dX7_text_11 : decode cX7_text 11 = .ok (.invokevirtual 51, 3) := by decide +kernel
theorem dX7_text_14 : decode cX7_text 14 = .ok (.ireturn, 1) := by decide +kernel
theorem dX7_text_15 : decode cX7_text 15 = .ok (.aload_n 0, 1) := by decide +kernel
theorem dX7_text_16 : decode cX7_text 16 = .ok (.getfield 25, 3) := by decide +kernel
theorem dX7_text_19 : decode cX7_text 19 = .ok (.aload_n 0, 1) := by decide +kernel
theorem dX7_text_20 : decode cX7_text 20 = .ok (.getfield 10, 3) := by decide +kernel
theorem dX7_text_23 : decode cX7_text 23 = .ok (.getfield 142, 3) := by decide +kernel
theorem dX7_text_26 : decode cX7_text 26 = .ok (.aload_n 0, 1) := by decide +kernel
theorem dX7_text_27 : decode cX7_text 27 = .ok (.getfield 10, 3) := by decide +kernel
theorem dX7_text_30 : decode cX7_text 30 = .ok (.getfield 139, 3) := by decide +kernel
theorem dX7_text_33 : decode cX7_text 33 = .ok (.iload_n 1, 1) := by decide +kernel
theorem dX7_text_34 : decode cX7_text 34 = .ok (.ifCond .ne 8, 3) := by decide +kernel
theorem dX7_text_37 : decode cX7_text 37 = .ok (.bipush 109, 2) := by decide +kernel
theorem dX7_text_39 : decode cX7_text 39 = .ok (.goto 5, 3) := by decide +kernel
theorem dX7_text_42 : decode cX7_text 42 = .ok (.bipush 100, 2) := by decide +kernel
theorem dX7_text_44 : decode cX7_text 44 = .ok (.invokevirtual 146, 3) := by decide +kernel
theorem dX7_text_47 : decode cX7_text 47 = .ok (.astore_n 2, 1) := by decide +kernel
theorem dX7_text_48 : decode cX7_text 48 = .ok (.aload_n 0, 1) := by decide +kernel
theorem dX7_text_49 : decode cX7_text 49 = .ok (.getfield 10, 3) := by decide +kernel
theorem dX7_text_52 : decode cX7_text 52 = .ok (.iconst 0, 1) := by decide +kernel
theorem dX7_text_53 : decode cX7_text 53 = .ok (.putfield 139, 3) := by decide +kernel
theorem dX7_text_56 : decode cX7_text 56 = .ok (.aload_n 2, 1) := by decide +kernel
theorem dX7_text_57 : decode cX7_text 57 = .ok (.ifnonnull 14, 3) := by decide +kernel
theorem dX7_text_60 : decode cX7_text 60 = .ok (.bipush (-10), 2) := by decide +kernel
theorem dX7_text_62 : decode cX7_text 62 = .ok (.aload_n 0, 1) := by decide +kernel
theorem dX7_text_63 : decode cX7_text 63 = .ok (.getfield 25, 3) := by decide +kernel
theorem dX7_text_66 : decode cX7_text 66 = .ok (.getfield 150, 3) := by decide +kernel
theorem dX7_text_69 : decode cX7_text 69 = .ok (.isub, 1) := by decide +kernel
theorem dX7_text_70 : decode cX7_text 70 = .ok (.ireturn, 1) := by decide +kernel
theorem dX7_text_71 : decode cX7_text 71 = .ok (.aload_n 0, 1) := by decide +kernel
theorem dX7_text_72 : decode cX7_text 72 = .ok (.getfield 10, 3) := by decide +kernel
theorem dX7_text_75 : decode cX7_text 75 = .ok (.getfield 153, 3) := by decide +kernel
theorem dX7_text_78 : decode cX7_text 78 = .ok (.iload_n 1, 1) := by decide +kernel
theorem dX7_text_79 : decode cX7_text 79 = .ok (.aload_n 2, 1) := by decide +kernel
theorem dX7_text_80 : decode cX7_text 80 = .ok (.aastore, 1) := by decide +kernel
theorem dX7_text_81 : decode cX7_text 81 = .ok (.iconst 1, 1) := by decide +kernel
theorem dX7_text_82 : decode cX7_text 82 = .ok (.ireturn, 1) := by decide +kernel
theorem dX7_untell_0 : decode cX7_untell 0 = .ok (.iload_n 1, 1) := by decide +kernel
theorem dX7_untell_1 : decode cX7_untell 1 = .ok (.iconst 0, 1) := by decide +kernel
theorem dX7_untell_2 : decode cX7_untell 2 = .ok (.iconst 1, 1) := by decide +kernel
theorem dX7_untell_3 : decode cX7_untell 3 = .ok (.invokestatic 47, 3) := by decide +kernel
theorem dX7_untell_6 : decode cX7_untell 6 = .ok (.ifCond .ne 9, 3) := by decide +kernel
theorem dX7_untell_9 : decode cX7_untell 9 = .ok (.aload_n 0, 1) := by decide +kernel
theorem dX7_untell_10 : decode cX7_untell 10 = .ok (.iconst 1, 1) := by decide +kernel
theorem dX7_untell_11 : decode cX7_untell 11 = .ok (.invokevirtual 51, 3) := by decide +kernel
theorem dX7_untell_14 : decode cX7_untell 14 = .ok (.ireturn, 1) := by decide +kernel
theorem dX7_untell_15 : decode cX7_untell 15 = .ok (.aload_n 0, 1) := by decide +kernel
theorem dX7_untell_16 : decode cX7_untell 16 = .ok (.getfield 10, 3) := by decide +kernel
theorem dX7_untell_19 : decode cX7_untell 19 = .ok (.getfield 153, 3) := by decide +kernel
theorem dX7_untell_22 : decode cX7_untell 22 = .ok (.iload_n 1, 1) := by decide +kernel
theorem dX7_untell_23 : decode cX7_untell 23 = .ok (.aaload, 1) := by decide +kernel
theorem dX7_untell_24 : decode cX7_untell 24 = .ok (.ifnonnull 7, 3) := by decide +kernel
theorem dX7_untell_27 : decode cX7_untell 27 = .ok (.iconst 0, 1) := by decide +kernel
theorem dX7_untell_28 : decode cX7_untell 28 = .ok (.goto 4, 3) := by decide +kernel
theorem dX7_untell_31 : decode cX7_untell 31 = .ok (.iconst 1, 1) := by decide +kernel
theorem dX7_untell_32 : decode cX7_untell 32 = .ok (.istore_n 2, 1) := by decide +kernel
theorem dX7_untell_33 : decode cX7_untell 33 = .ok (.aload_n 0, 1) := by decide +kernel
theorem dX7_untell_34 : decode cX7_untell 34 = .ok (.getfield 10, 3) := by decide +kernel
theorem dX7_untell_37 : decode cX7_untell 37 = .ok (.getfield 153, 3) := by decide +kernel
theorem dX7_untell_40 : decode cX7_untell 40 = .ok (.iload_n 1, 1) := by decide +kernel
theorem dX7_untell_41 : decode cX7_untell 41 = .ok (.aconst_null, 1) := by decide +kernel
theorem dX7_untell_42 : decode cX7_untell 42 = .ok (.aastore, 1) := by decide +kernel
theorem dX7_untell_43 : decode cX7_untell 43 = .ok (.iload_n 2, 1) := by decide +kernel
theorem dX7_untell_44 : decode cX7_untell 44 = .ok (.ireturn, 1) := by decide +kernel
theorem dX7_days_0 : decode cX7_days 0 = .ok (.iload_n 1, 1) := by decide +kernel
theorem dX7_days_1 : decode cX7_days 1 = .ok (.iconst 1, 1) := by decide +kernel
theorem dX7_days_2 : decode cX7_days 2 = .ok (.bipush 90, 2) := by decide +kernel
theorem dX7_days_4 : decode cX7_days 4 = .ok (.invokestatic 47, 3) := by decide +kernel
theorem dX7_days_7 : decode cX7_days 7 = .ok (.ifCond .ne 9, 3) := by decide +kernel
theorem dX7_days_10 : decode cX7_days 10 = .ok (.aload_n 0, 1) := by decide +kernel
theorem dX7_days_11 : decode cX7_days 11 = .ok (.iconst 1, 1) := by decide +kernel
theorem dX7_days_12 : decode cX7_days 12 = .ok (.invokevirtual 51, 3) := by decide +kernel
theorem dX7_days_15 : decode cX7_days 15 = .ok (.ireturn, 1) := by decide +kernel
theorem dX7_days_16 : decode cX7_days 16 = .ok (.aload_n 0, 1) := by decide +kernel
theorem dX7_days_17 : decode cX7_days 17 = .ok (.getfield 10, 3) := by decide +kernel
theorem dX7_days_20 : decode cX7_days 20 = .ok (.getfield 157, 3) := by decide +kernel
theorem dX7_days_23 : decode cX7_days 23 = .ok (.iload_n 1, 1) := by decide +kernel
theorem dX7_days_24 : decode cX7_days 24 = .ok (.iadd, 1) := by decide +kernel
theorem dX7_days_25 : decode cX7_days 25 = .ok (.sipush 9999, 3) := by decide +kernel
theorem dX7_days_28 : decode cX7_days 28 = .ok (.if_icmp .le 9, 3) := by decide +kernel
theorem dX7_days_31 : decode cX7_days 31 = .ok (.aload_n 0, 1) := by decide +kernel
theorem dX7_days_32 : decode cX7_days 32 = .ok (.iconst 3, 1) := by decide +kernel
theorem dX7_days_33 : decode cX7_days 33 = .ok (.invokevirtual 51, 3) := by decide +kernel
theorem dX7_days_36 : decode cX7_days 36 = .ok (.ireturn, 1) := by decide +kernel
theorem dX7_days_37 : decode cX7_days 37 = .ok (.iconst 0, 1) := by decide +kernel
theorem dX7_days_38 : decode cX7_days 38 = .ok (.istore_n 2, 1) := by decide +kernel
theorem dX7_days_39 : decode cX7_days 39 = .ok (.iconst 0, 1) := by decide +kernel
theorem dX7_days_40 : decode cX7_days 40 = .ok (.istore_n 3, 1) := by decide +kernel
theorem dX7_days_41 : decode cX7_days 41 = .ok (.iload_n 3, 1) := by decide +kernel
theorem dX7_days_42 : decode cX7_days 42 = .ok (.iload_n 1, 1) := by decide +kernel
theorem dX7_days_43 : decode cX7_days 43 = .ok (.if_icmp .ge 19, 3) := by decide +kernel
theorem dX7_days_46 : decode cX7_days 46 = .ok (.iload_n 2, 1) := by decide +kernel
theorem dX7_days_47 : decode cX7_days 47 = .ok (.aload_n 0, 1) := by decide +kernel
theorem dX7_days_48 : decode cX7_days 48 = .ok (.getfield 10, 3) := by decide +kernel
theorem dX7_days_51 : decode cX7_days 51 = .ok (.invokevirtual 160, 3) := by decide +kernel
theorem dX7_days_54 : decode cX7_days 54 = .ok (.iadd, 1) := by decide +kernel
theorem dX7_days_55 : decode cX7_days 55 = .ok (.istore_n 2, 1) := by decide +kernel
theorem dX7_days_56 : decode cX7_days 56 = .ok (.iinc 3 1, 3) := by decide +kernel
theorem dX7_days_59 : decode cX7_days 59 = .ok (.goto (-18), 3) := by decide +kernel
theorem dX7_days_62 : decode cX7_days 62 = .ok (.iload_n 2, 1) := by decide +kernel
theorem dX7_days_63 : decode cX7_days 63 = .ok (.ireturn, 1) := by decide +kernel
theorem dX7_draws_0 : decode cX7_draws 0 = .ok (.iload_n 1, 1) := by decide +kernel
theorem dX7_draws_1 : decode cX7_draws 1 = .ok (.iconst 1, 1) := by decide +kernel
theorem dX7_draws_2 : decode cX7_draws 2 = .ok (.bipush 90, 2) := by decide +kernel
theorem dX7_draws_4 : decode cX7_draws 4 = .ok (.invokestatic 47, 3) := by decide +kernel
theorem dX7_draws_7 : decode cX7_draws 7 = .ok (.ifCond .ne 9, 3) := by decide +kernel
theorem dX7_draws_10 : decode cX7_draws 10 = .ok (.aload_n 0, 1) := by decide +kernel
theorem dX7_draws_11 : decode cX7_draws 11 = .ok (.iconst 1, 1) := by decide +kernel
theorem dX7_draws_12 : decode cX7_draws 12 = .ok (.invokevirtual 51, 3) := by decide +kernel
theorem dX7_draws_15 : decode cX7_draws 15 = .ok (.ireturn, 1) := by decide +kernel
theorem dX7_draws_16 : decode cX7_draws 16 = .ok (.aload_n 0, 1) := by decide +kernel
theorem dX7_draws_17 : decode cX7_draws 17 = .ok (.getfield 10, 3) := by decide +kernel
theorem dX7_draws_20 : decode cX7_draws 20 = .ok (.getfield 157, 3) := by decide +kernel
theorem dX7_draws_23 : decode cX7_draws 23 = .ok (.iload_n 1, 1) := by decide +kernel
theorem dX7_draws_24 : decode cX7_draws 24 = .ok (.iadd, 1) := by decide +kernel
theorem dX7_draws_25 : decode cX7_draws 25 = .ok (.sipush 9999, 3) := by decide +kernel
theorem dX7_draws_28 : decode cX7_draws 28 = .ok (.if_icmp .le 9, 3) := by decide +kernel
theorem dX7_draws_31 : decode cX7_draws 31 = .ok (.aload_n 0, 1) := by decide +kernel
theorem dX7_draws_32 : decode cX7_draws 32 = .ok (.iconst 3, 1) := by decide +kernel
theorem dX7_draws_33 : decode cX7_draws 33 = .ok (.invokevirtual 51, 3) := by decide +kernel
theorem dX7_draws_36 : decode cX7_draws 36 = .ok (.ireturn, 1) := by decide +kernel
theorem dX7_draws_37 : decode cX7_draws 37 = .ok (.iconst 0, 1) := by decide +kernel
theorem dX7_draws_38 : decode cX7_draws 38 = .ok (.istore_n 2, 1) := by decide +kernel
theorem dX7_draws_39 : decode cX7_draws 39 = .ok (.iconst 0, 1) := by decide +kernel
theorem dX7_draws_40 : decode cX7_draws 40 = .ok (.istore_n 3, 1) := by decide +kernel
theorem dX7_draws_41 : decode cX7_draws 41 = .ok (.iload_n 3, 1) := by decide +kernel
theorem dX7_draws_42 : decode cX7_draws 42 = .ok (.iload_n 1, 1) := by decide +kernel
theorem dX7_draws_43 : decode cX7_draws 43 = .ok (.if_icmp .ge 19, 3) := by decide +kernel
theorem dX7_draws_46 : decode cX7_draws 46 = .ok (.iload_n 2, 1) := by decide +kernel
theorem dX7_draws_47 : decode cX7_draws 47 = .ok (.aload_n 0, 1) := by decide +kernel
theorem dX7_draws_48 : decode cX7_draws 48 = .ok (.getfield 10, 3) := by decide +kernel
theorem dX7_draws_51 : decode cX7_draws 51 = .ok (.invokevirtual 164, 3) := by decide +kernel
theorem dX7_draws_54 : decode cX7_draws 54 = .ok (.iadd, 1) := by decide +kernel
theorem dX7_draws_55 : decode cX7_draws 55 = .ok (.istore_n 2, 1) := by decide +kernel
theorem dX7_draws_56 : decode cX7_draws 56 = .ok (.iinc 3 1, 3) := by decide +kernel
theorem dX7_draws_59 : decode cX7_draws 59 = .ok (.goto (-18), 3) := by decide +kernel
theorem dX7_draws_62 : decode cX7_draws 62 = .ok (.iload_n 2, 1) := by decide +kernel
theorem dX7_draws_63 : decode cX7_draws 63 = .ok (.ireturn, 1) := by decide +kernel
theorem dX7_misheard_0 : decode cX7_misheard 0 = .ok (.iload_n 1, 1) := by decide +kernel
theorem dX7_misheard_1 : decode cX7_misheard 1 = .ok (.iconst 0, 1) := by decide +kernel
theorem dX7_misheard_2 : decode cX7_misheard 2 = .ok (.bipush 16, 2) := by decide +kernel
theorem dX7_misheard_4 : decode cX7_misheard 4 = .ok (.invokestatic 47, 3) := by decide +kernel
theorem dX7_misheard_7 : decode cX7_misheard 7 = .ok (.ifCond .ne 9, 3) := by decide +kernel
theorem dX7_misheard_10 : decode cX7_misheard 10 = .ok (.aload_n 0, 1) := by decide +kernel
theorem dX7_misheard_11 : decode cX7_misheard 11 = .ok (.iconst 1, 1) := by decide +kernel
theorem dX7_misheard_12 : decode cX7_misheard 12 = .ok (.invokevirtual 51, 3) := by decide +kernel
theorem dX7_misheard_15 : decode cX7_misheard 15 = .ok (.ireturn, 1) := by decide +kernel
theorem dX7_misheard_16 : decode cX7_misheard 16 = .ok (.aload_n 0, 1) := by decide +kernel
theorem dX7_misheard_17 : decode cX7_misheard 17 = .ok (.getfield 10, 3) := by decide +kernel
theorem dX7_misheard_20 : decode cX7_misheard 20 = .ok (.getfield 167, 3) := by decide +kernel
theorem dX7_misheard_23 : decode cX7_misheard 23 = .ok (.istore_n 2, 1) := by decide +kernel
theorem dX7_misheard_24 : decode cX7_misheard 24 = .ok (.aload_n 0, 1) := by decide +kernel
theorem dX7_misheard_25 : decode cX7_misheard 25 = .ok (.getfield 10, 3) := by decide +kernel
theorem dX7_misheard_28 : decode cX7_misheard 28 = .ok (.iload_n 1, 1) := by decide +kernel
theorem dX7_misheard_29 : decode cX7_misheard 29 = .ok (.putfield 167, 3) := by decide +kernel
theorem dX7_misheard_32 : decode cX7_misheard 32 = .ok (.iload_n 2, 1) := by decide +kernel
theorem dX7_misheard_33 : decode cX7_misheard 33 = .ok (.ireturn, 1) := by decide +kernel
theorem dX7_seed_0 : decode cX7_seed 0 = .ok (.aload_n 0, 1) := by decide +kernel
theorem dX7_seed_1 : decode cX7_seed 1 = .ok (.getfield 10, 3) := by decide +kernel
theorem dX7_seed_4 : decode cX7_seed 4 = .ok (.getfield 170, 3) := by decide +kernel
theorem dX7_seed_7 : decode cX7_seed 7 = .ok (.istore_n 2, 1) := by decide +kernel
theorem dX7_seed_8 : decode cX7_seed 8 = .ok (.aload_n 0, 1) := by decide +kernel
theorem dX7_seed_9 : decode cX7_seed 9 = .ok (.getfield 10, 3) := by decide +kernel
theorem dX7_seed_12 : decode cX7_seed 12 = .ok (.iload_n 1, 1) := by decide +kernel
theorem dX7_seed_13 : decode cX7_seed 13 = .ok (.putfield 170, 3) := by decide +kernel
theorem dX7_seed_16 : decode cX7_seed 16 = .ok (.iload_n 2, 1) := by decide +kernel
theorem dX7_seed_17 : decode cX7_seed 17 = .ok (.ireturn, 1) := by decide +kernel
theorem dX7_then_0 : decode cX7_then 0 = .ok (.iload_n 1, 1) := by decide +kernel
theorem dX7_then_1 : decode cX7_then 1 = .ok (.iconst 0, 1) := by decide +kernel
theorem dX7_then_2 : decode cX7_then 2 = .ok (.bipush 90, 2) := by decide +kernel
theorem dX7_then_4 : decode cX7_then 4 = .ok (.invokestatic 47, 3) := by decide +kernel
theorem dX7_then_7 : decode cX7_then 7 = .ok (.ifCond .eq 21, 3) := by decide +kernel
theorem dX7_then_10 : decode cX7_then 10 = .ok (.aload_n 0, 1) := by decide +kernel
theorem dX7_then_11 : decode cX7_then 11 = .ok (.iload_n 2, 1) := by decide +kernel
theorem dX7_then_12 : decode cX7_then 12 = .ok (.invokevirtual 62, 3) := by decide +kernel
theorem dX7_then_15 : decode cX7_then 15 = .ok (.ifCond .eq 13, 3) := by decide +kernel
theorem dX7_then_18 : decode cX7_then 18 = .ok (.iload_n 3, 1) := by decide +kernel
theorem dX7_then_19 : decode cX7_then 19 = .ok (.iconst 0, 1) := by decide +kernel
theorem dX7_then_20 : decode cX7_then 20 = .ok (.bipush 23, 2) := by decide +kernel
theorem dX7_then_22 : decode cX7_then 22 = .ok (.invokestatic 47, 3) := by decide +kernel
theorem dX7_then_25 : decode cX7_then 25 = .ok (.ifCond .ne 9, 3) := by decide +kernel
theorem dX7_then_28 : decode cX7_then 28 = .ok (.aload_n 0, 1) := by decide +kernel
theorem dX7_then_29 : decode cX7_then 29 = .ok (.iconst 1, 1) := by decide +kernel
theorem dX7_then_30 : decode cX7_then 30 = .ok (.invokevirtual 51, 3) := by decide +kernel
theorem dX7_then_33 : decode cX7_then 33 = .ok (.ireturn, 1) := by decide +kernel
theorem dX7_then_34 : decode cX7_then 34 = .ok (.aload_n 0, 1) := by decide +kernel
theorem dX7_then_35 : decode cX7_then 35 = .ok (.iload_n 1, 1) := by decide +kernel
theorem dX7_then_36 : decode cX7_then 36 = .ok (.invokevirtual 173, 3) := by decide +kernel
theorem dX7_then_39 : decode cX7_then 39 = .ok (.aload_n 0, 1) := by decide +kernel
theorem dX7_then_40 : decode cX7_then 40 = .ok (.getfield 19, 3) := by decide +kernel
theorem dX7_then_43 : decode cX7_then 43 = .ok (.iload_n 2, 1) := by decide +kernel
theorem dX7_then_44 : decode cX7_then 44 = .ok (.iload_n 3, 1) := by decide +kernel
theorem dX7_then_45 : decode cX7_then 45 = .ok (.invokevirtual 66, 3) := by decide +kernel
theorem dX7_then_48 : decode cX7_then 48 = .ok (.ireturn, 1) := by decide +kernel
theorem dX7_thenTask_0 : decode cX7_thenTask 0 = .ok (.iload_n 1, 1) := by decide +kernel
theorem dX7_thenTask_1 : decode cX7_thenTask 1 = .ok (.iconst 0, 1) := by decide +kernel
theorem dX7_thenTask_2 : decode cX7_thenTask 2 = .ok (.bipush 90, 2) := by decide +kernel
theorem dX7_thenTask_4 : decode cX7_thenTask 4 = .ok (.invokestatic 47, 3) := by decide +kernel
theorem dX7_thenTask_7 : decode cX7_thenTask 7 = .ok (.ifCond .eq 21, 3) := by decide +kernel
theorem dX7_thenTask_10 : decode cX7_thenTask 10 = .ok (.iload_n 2, 1) := by decide +kernel
theorem dX7_thenTask_11 : decode cX7_thenTask 11 = .ok (.iconst 0, 1) := by decide +kernel
theorem dX7_thenTask_12 : decode cX7_thenTask 12 = .ok (.iconst 3, 1) := by decide +kernel
theorem dX7_thenTask_13 : decode cX7_thenTask 13 = .ok (.invokestatic 47, 3) := by decide +kernel
theorem dX7_thenTask_16 : decode cX7_thenTask 16 = .ok (.ifCond .eq 12, 3) := by decide +kernel
theorem dX7_thenTask_19 : decode cX7_thenTask 19 = .ok (.iload_n 3, 1) := by decide +kernel
theorem dX7_thenTask_20 : decode cX7_thenTask 20 = .ok (.iconst 0, 1) := by decide +kernel
theorem dX7_thenTask_21 : decode cX7_thenTask 21 = .ok (.iconst 4, 1) := by decide +kernel
theorem dX7_thenTask_22 : decode cX7_thenTask 22 = .ok (.invokestatic 47, 3) := by decide +kernel
theorem dX7_thenTask_25 : decode cX7_thenTask 25 = .ok (.ifCond .ne 9, 3) := by decide +kernel
theorem dX7_thenTask_28 : decode cX7_thenTask 28 = .ok (.aload_n 0, 1) := by decide +kernel
theorem dX7_thenTask_29 : decode cX7_thenTask 29 = .ok (.iconst 1, 1) := by decide +kernel
theorem dX7_thenTask_30 : decode cX7_thenTask 30 = .ok (.invokevirtual 51, 3) := by decide +kernel
theorem dX7_thenTask_33 : decode cX7_thenTask 33 = .ok (.ireturn, 1) := by decide +kernel
theorem dX7_thenTask_34 : decode cX7_thenTask 34 = .ok (.aload_n 0, 1) := by decide +kernel
theorem dX7_thenTask_35 : decode cX7_thenTask 35 = .ok (.iload_n 1, 1) := by decide +kernel
theorem dX7_thenTask_36 : decode cX7_thenTask 36 = .ok (.invokevirtual 173, 3) := by decide +kernel
theorem dX7_thenTask_39 : decode cX7_thenTask 39 = .ok (.aload_n 0, 1) := by decide +kernel
theorem dX7_thenTask_40 : decode cX7_thenTask 40 = .ok (.getfield 19, 3) := by decide +kernel
theorem dX7_thenTask_43 : decode cX7_thenTask 43 = .ok (.iload_n 2, 1) := by decide +kernel
theorem dX7_thenTask_44 : decode cX7_thenTask 44 = .ok (.iload_n 3, 1) := by decide +kernel
theorem dX7_thenTask_45 : decode cX7_thenTask 45 = .ok (.invokevirtual 136, 3) := by decide +kernel
theorem dX7_thenTask_48 : decode cX7_thenTask 48 = .ok (.ireturn, 1) := by decide +kernel
theorem dX7_lost_0 : decode cX7_lost 0 = .ok (.iload_n 1, 1) := by decide +kernel
theorem dX7_lost_1 : decode cX7_lost 1 = .ok (.invokestatic 95, 3) := by decide +kernel
theorem dX7_lost_4 : decode cX7_lost 4 = .ok (.ifCond .eq 13, 3) := by decide +kernel
theorem dX7_lost_7 : decode cX7_lost 7 = .ok (.iload_n 2, 1) := by decide +kernel
theorem dX7_lost_8 : decode cX7_lost 8 = .ok (.iconst 0, 1) := by decide +kernel
theorem dX7_lost_9 : decode cX7_lost 9 = .ok (.bipush 90, 2) := by decide +kernel
theorem dX7_lost_11 : decode cX7_lost 11 = .ok (.invokestatic 47, 3) := by decide +kernel
theorem dX7_lost_14 : decode cX7_lost 14 = .ok (.ifCond .ne 9, 3) := by decide +kernel
theorem dX7_lost_17 : decode cX7_lost 17 = .ok (.aload_n 0, 1) := by decide +kernel
theorem dX7_lost_18 : decode cX7_lost 18 = .ok (.iconst 1, 1) := by decide +kernel
theorem dX7_lost_19 : decode cX7_lost 19 = .ok (.invokevirtual 51, 3) := by decide +kernel
theorem dX7_lost_22 : decode cX7_lost 22 = .ok (.ireturn, 1) := by decide +kernel
theorem dX7_lost_23 : decode cX7_lost 23 = .ok (.aload_n 0, 1) := by decide +kernel
theorem dX7_lost_24 : decode cX7_lost 24 = .ok (.iconst 0, 1) := by decide +kernel
theorem dX7_lost_25 : decode cX7_lost 25 = .ok (.invokevirtual 173, 3) := by decide +kernel
theorem dX7_lost_28 : decode cX7_lost 28 = .ok (.iconst 0, 1) := by decide +kernel
theorem dX7_lost_29 : decode cX7_lost 29 = .ok (.istore_n 3, 1) := by decide +kernel
theorem dX7_lost_30 : decode cX7_lost 30 = .ok (.iload_n 3, 1) := by decide +kernel
theorem dX7_lost_31 : decode cX7_lost 31 = .ok (.iload_n 2, 1) := by decide +kernel
theorem dX7_lost_32 : decode cX7_lost 32 = .ok (.if_icmp .gt 30, 3) := by decide +kernel
theorem dX7_lost_35 : decode cX7_lost 35 = .ok (.aload_n 0, 1) := by decide +kernel
theorem dX7_lost_36 : decode cX7_lost 36 = .ok (.getfield 19, 3) := by decide +kernel
theorem dX7_lost_39 : decode cX7_lost 39 = .ok (.iload_n 1, 1) := by decide +kernel
theorem dX7_lost_40 : decode cX7_lost 40 = .ok (.invokevirtual 176, 3) := by decide +kernel
theorem dX7_lost_43 : decode cX7_lost 43 = .ok (.ifCond .ne 5, 3) := by decide +kernel
theorem dX7_lost_46 : decode cX7_lost 46 = .ok (.iload_n 3, 1) := by decide +kernel
theorem dX7_lost_47 : decode cX7_lost 47 = .ok (.ireturn, 1) := by decide +kernel
theorem dX7_lost_48 : decode cX7_lost 48 = .ok (.aload_n 0, 1) := by decide +kernel
theorem dX7_lost_49 : decode cX7_lost 49 = .ok (.getfield 19, 3) := by decide +kernel
theorem dX7_lost_52 : decode cX7_lost 52 = .ok (.invokevirtual 160, 3) := by decide +kernel
theorem dX7_lost_55 : decode cX7_lost 55 = .ok (.pop, 1) := by decide +kernel
theorem dX7_lost_56 : decode cX7_lost 56 = .ok (.iinc 3 1, 3) := by decide +kernel
theorem dX7_lost_59 : decode cX7_lost 59 = .ok (.goto (-29), 3) := by decide +kernel
theorem dX7_lost_62 : decode cX7_lost 62 = .ok (.aload_n 0, 1) := by decide +kernel
theorem dX7_lost_63 : decode cX7_lost 63 = .ok (.iconst 2, 1) := by decide +kernel
theorem dX7_lost_64 : decode cX7_lost 64 = .ok (.invokevirtual 51, 3) := by decide +kernel
theorem dX7_lost_67 : decode cX7_lost 67 = .ok (.ireturn, 1) := by decide +kernel
theorem dX7_teachers_0 : decode cX7_teachers 0 = .ok (.iload_n 1, 1) := by decide +kernel
theorem dX7_teachers_1 : decode cX7_teachers 1 = .ok (.invokestatic 95, 3) := by decide +kernel
theorem dX7_teachers_4 : decode cX7_teachers 4 = .ok (.ifCond .eq 22, 3) := by decide +kernel
theorem dX7_teachers_7 : decode cX7_teachers 7 = .ok (.iload_n 2, 1) := by decide +kernel
theorem dX7_teachers_8 : decode cX7_teachers 8 = .ok (.iconst 1, 1) := by decide +kernel
theorem dX7_teachers_9 : decode cX7_teachers 9 = .ok (.bipush 30, 2) := by decide +kernel
theorem dX7_teachers_11 : decode cX7_teachers 11 = .ok (.invokestatic 47, 3) := by decide +kernel
theorem dX7_teachers_14 : decode cX7_teachers 14 = .ok (.ifCond .eq 12, 3) := by decide +kernel
theorem dX7_teachers_17 : decode cX7_teachers 17 = .ok (.iload_n 3, 1) := by decide +kernel
theorem dX7_teachers_18 : decode cX7_teachers 18 = .ok (.iconst 0, 1) := by decide +kernel
theorem dX7_teachers_19 : decode cX7_teachers 19 = .ok (.iconst 1, 1) := by decide +kernel
theorem dX7_teachers_20 : decode cX7_teachers 20 = .ok (.invokestatic 47, 3) := by decide +kernel
theorem dX7_teachers_23 : decode cX7_teachers 23 = .ok (.ifCond .ne 9, 3) := by decide +kernel
theorem dX7_teachers_26 : decode cX7_teachers 26 = .ok (.aload_n 0, 1) := by decide +kernel
theorem dX7_teachers_27 : decode cX7_teachers 27 = .ok (.iconst 1, 1) := by decide +kernel
theorem dX7_teachers_28 : decode cX7_teachers 28 = .ok (.invokevirtual 51, 3) := by decide +kernel
theorem dX7_teachers_31 : decode cX7_teachers 31 = .ok (.ireturn, 1) := by decide +kernel
theorem dX7_teachers_32 : decode cX7_teachers 32 = .ok (.iconst (-1), 1) := by decide +kernel
theorem dX7_teachers_33 : decode cX7_teachers 33 = .ok (.istore 4, 2) := by decide +kernel
theorem dX7_teachers_35 : decode cX7_teachers 35 = .ok (.iconst 0, 1) := by decide +kernel
theorem dX7_teachers_36 : decode cX7_teachers 36 = .ok (.istore 5, 2) := by decide +kernel
theorem dX7_teachers_38 : decode cX7_teachers 38 = .ok (.iload 5, 2) := by decide +kernel
theorem dX7_teachers_40 : decode cX7_teachers 40 = .ok (.iconst 1, 1) := by decide +kernel
theorem dX7_teachers_41 : decode cX7_teachers 41 = .ok (.aload_n 0, 1) := by decide +kernel
theorem dX7_teachers_42 : decode cX7_teachers 42 = .ok (.getfield 10, 3) := by decide +kernel
theorem dX7_teachers_45 : decode cX7_teachers 45 = .ok (.getfield 55, 3) := by decide +kernel
theorem dX7_teachers_48 : decode cX7_teachers 48 = .ok (.ishl, 1) := by decide +kernel
theorem dX7_teachers_49 : decode cX7_teachers 49 = .ok (.if_icmp .ge 54, 3) := by decide +kernel
theorem dX7_teachers_52 : decode cX7_teachers 52 = .ok (.iload 4, 2) := by decide +kernel
theorem dX7_teachers_54 : decode cX7_teachers 54 = .ok (.ifCond .lt 16, 3) := by decide +kernel
theorem dX7_teachers_57 : decode cX7_teachers 57 = .ok (.iload 5, 2) := by decide +kernel
theorem dX7_teachers_59 : decode cX7_teachers 59 = .ok (.invokestatic 179, 3) := by decide +kernel
theorem dX7_teachers_62 : decode cX7_teachers 62 = .ok (.iload 4, 2) := by decide +kernel
theorem dX7_teachers_64 : decode cX7_teachers 64 = .ok (.invokestatic 179, 3) := by decide +kernel
theorem dX7_teachers_67 : decode cX7_teachers 67 = .ok (.if_icmp .ge 7, 3) := by decide +kernel
theorem dX7_teachers_70 : decode cX7_teachers 70 = .ok (.iconst 1, 1) := by decide +kernel
theorem dX7_teachers_71 : decode cX7_teachers 71 = .ok (.goto 4, 3) := by decide +kernel
theorem dX7_teachers_74 : decode cX7_teachers 74 = .ok (.iconst 0, 1) := by decide +kernel
theorem dX7_teachers_75 : decode cX7_teachers 75 = .ok (.istore 6, 2) := by decide +kernel
theorem dX7_teachers_77 : decode cX7_teachers 77 = .ok (.iload 6, 2) := by decide +kernel
theorem dX7_teachers_79 : decode cX7_teachers 79 = .ok (.ifCond .eq 18, 3) := by decide +kernel
theorem dX7_teachers_82 : decode cX7_teachers 82 = .ok (.aload_n 0, 1) := by decide +kernel
theorem dX7_teachers_83 : decode cX7_teachers 83 = .ok (.iload_n 1, 1) := by decide +kernel
theorem dX7_teachers_84 : decode cX7_teachers 84 = .ok (.iload_n 2, 1) := by decide +kernel
theorem dX7_teachers_85 : decode cX7_teachers 85 = .ok (.iload 5, 2) := by decide +kernel
theorem dX7_teachers_87 : decode cX7_teachers 87 = .ok (.invokevirtual 184, 3) := by decide +kernel
theorem dX7_teachers_90 : decode cX7_teachers 90 = .ok (.ifCond .eq 7, 3) := by decide +kernel
theorem dX7_teachers_93 : decode cX7_teachers 93 = .ok (.iload 5, 2) := by decide +kernel
theorem dX7_teachers_95 : decode cX7_teachers 95 = .ok (.istore 4, 2) := by decide +kernel
theorem dX7_teachers_97 : decode cX7_teachers 97 = .ok (.iinc 5 1, 3) := by decide +kernel
theorem dX7_teachers_100 : decode cX7_teachers 100 = .ok (.goto (-62), 3) := by decide +kernel
theorem dX7_teachers_103 : decode cX7_teachers 103 = .ok (.iload 4, 2) := by decide +kernel
theorem dX7_teachers_105 : decode cX7_teachers 105 = .ok (.ifCond .ge 9, 3) := by decide +kernel
theorem dX7_teachers_108 : decode cX7_teachers 108 = .ok (.aload_n 0, 1) := by decide +kernel
theorem dX7_teachers_109 : decode cX7_teachers 109 = .ok (.iconst 2, 1) := by decide +kernel
theorem dX7_teachers_110 : decode cX7_teachers 110 = .ok (.invokevirtual 51, 3) := by decide +kernel
theorem dX7_teachers_113 : decode cX7_teachers 113 = .ok (.ireturn, 1) := by decide +kernel
theorem dX7_teachers_114 : decode cX7_teachers 114 = .ok (.iload_n 3, 1) := by decide +kernel
theorem dX7_teachers_115 : decode cX7_teachers 115 = .ok (.ifCond .ne 11, 3) := by decide +kernel
theorem dX7_teachers_118 : decode cX7_teachers 118 = .ok (.iload 4, 2) := by decide +kernel
theorem dX7_teachers_120 : decode cX7_teachers 120 = .ok (.invokestatic 179, 3) := by decide +kernel
theorem dX7_teachers_123 : decode cX7_teachers 123 = .ok (.goto 5, 3) := by decide +kernel
theorem dX7_teachers_126 : decode cX7_teachers 126 = .ok (.iload 4, 2) := by decide +kernel
theorem dX7_teachers_128 : decode cX7_teachers 128 = .ok (.ireturn, 1) := by decide +kernel
theorem dX7_storm_0 : decode cX7_storm 0 = .ok (.iload_n 1, 1) := by decide +kernel
theorem dX7_storm_1 : decode cX7_storm 1 = .ok (.iconst 0, 1) := by decide +kernel
theorem dX7_storm_2 : decode cX7_storm 2 = .ok (.iconst 1, 1) := by decide +kernel
theorem dX7_storm_3 : decode cX7_storm 3 = .ok (.invokestatic 47, 3) := by decide +kernel
theorem dX7_storm_6 : decode cX7_storm 6 = .ok (.ifCond .ne 9, 3) := by decide +kernel
theorem dX7_storm_9 : decode cX7_storm 9 = .ok (.aload_n 0, 1) := by decide +kernel
theorem dX7_storm_10 : decode cX7_storm 10 = .ok (.iconst 1, 1) := by decide +kernel
theorem dX7_storm_11 : decode cX7_storm 11 = .ok (.invokevirtual 51, 3) := by decide +kernel
theorem dX7_storm_14 : decode cX7_storm 14 = .ok (.ireturn, 1) := by decide +kernel
theorem dX7_storm_15 : decode cX7_storm 15 = .ok (.iconst 0, 1) := by decide +kernel
theorem dX7_storm_16 : decode cX7_storm 16 = .ok (.istore_n 2, 1) := by decide +kernel
theorem dX7_storm_17 : decode cX7_storm 17 = .ok (.iconst (-1), 1) := by decide +kernel
theorem dX7_storm_18 : decode cX7_storm 18 = .ok (.istore_n 3, 1) := by decide +kernel
theorem dX7_storm_19 : decode cX7_storm 19 = .ok (.iconst 0, 1) := by decide +kernel
theorem dX7_storm_20 : decode cX7_storm 20 = .ok (.istore 4, 2) := by decide +kernel
theorem dX7_storm_22 : decode cX7_storm 22 = .ok (.iload 4, 2) := by decide +kernel
theorem dX7_storm_24 : decode cX7_storm 24 = .ok (.aload_n 0, 1) := by decide +kernel
theorem dX7_storm_25 : decode cX7_storm 25 = .ok (.getfield 10, 3) := by decide +kernel
theorem dX7_storm_28 : decode cX7_storm 28 = .ok (.getfield 55, 3) := by decide +kernel
theorem dX7_storm_31 : decode cX7_storm 31 = .ok (.if_icmp .ge 67, 3) := by decide +kernel
theorem dX7_storm_34 : decode cX7_storm 34 = .ok (.iload 4, 2) := by decide +kernel
theorem dX7_storm_36 : decode cX7_storm 36 = .ok (.iconst 1, 1) := by decide +kernel
theorem dX7_storm_37 : decode cX7_storm 37 = .ok (.iadd, 1) := by decide +kernel
theorem dX7_storm_38 : decode cX7_storm 38 = .ok (.istore 5, 2) := by decide +kernel
theorem dX7_storm_40 : decode cX7_storm 40 = .ok (.iload 5, 2) := by decide +kernel
theorem dX7_storm_42 : decode cX7_storm 42 = .ok (.aload_n 0, 1) := by decide +kernel
theorem dX7_storm_43 : decode cX7_storm 43 = .ok (.getfield 10, 3) := by decide +kernel
theorem dX7_storm_46 : decode cX7_storm 46 = .ok (.getfield 55, 3) := by decide +kernel
theorem dX7_storm_49 : decode cX7_storm 49 = .ok (.if_icmp .ge 43, 3) := by decide +kernel
theorem dX7_storm_52 : decode cX7_storm 52 = .ok (.aload_n 0, 1) := by decide +kernel
theorem dX7_storm_53 : decode cX7_storm 53 = .ok (.getfield 10, 3) := by decide +kernel
theorem dX7_storm_56 : decode cX7_storm 56 = .ok (.iload 4, 2) := by decide +kernel
theorem dX7_storm_58 : decode cX7_storm 58 = .ok (.iload 5, 2) := by decide +kernel
theorem dX7_storm_60 : decode cX7_storm 60 = .ok (.invokevirtual 187, 3) := by decide +kernel
theorem dX7_storm_63 : decode cX7_storm 63 = .ok (.ifCond .eq 23, 3) := by decide +kernel
theorem dX7_storm_66 : decode cX7_storm 66 = .ok (.iinc 2 1, 3) := by decide +kernel
theorem dX7_storm_69 : decode cX7_storm 69 = .ok (.iload_n 3, 1) := by decide +kernel
theorem dX7_storm_70 : decode cX7_storm 70 = .ok (.ifCond .ge 14, 3) := by decide +kernel
theorem dX7_storm_73 : decode cX7_storm 73 = .ok (.bipush 10, 2) := by decide +kernel
theorem dX7_storm_75 : decode cX7_storm 75 = .ok (.iload 4, 2) := by decide +kernel
theorem dX7_storm_77 : decode cX7_storm 77 = .ok (.imul, 1) := by decide +kernel
theorem dX7_storm_78 : decode cX7_storm 78 = .ok (.iload 5, 2) := by decide +kernel
theorem dX7_storm_80 : decode cX7_storm 80 = .ok (.iadd, 1) := by decide +kernel
theorem dX7_storm_81 : decode cX7_storm 81 = .ok (.goto 4, 3) := by decide +kernel
theorem dX7_storm_84 : decode cX7_storm 84 = .ok (.iload_n 3, 1) := by decide +kernel
theorem dX7_storm_85 : decode cX7_storm 85 = .ok (.istore_n 3, 1) := by decide +kernel
theorem dX7_storm_86 : decode cX7_storm 86 = .ok (.iinc 5 1, 3) := by decide +kernel
theorem dX7_storm_89 : decode cX7_storm 89 = .ok (.goto (-49), 3) := by decide +kernel
theorem dX7_storm_92 : decode cX7_storm 92 = .ok (.iinc 4 1, 3) := by decide +kernel
theorem dX7_storm_95 : decode cX7_storm 95 = .ok (.goto (-73), 3) := by decide +kernel
theorem dX7_storm_98 : decode cX7_storm 98 = .ok (.iload_n 1, 1) := by decide +kernel
theorem dX7_storm_99 : decode cX7_storm 99 = .ok (.ifCond .ne 5, 3) := by decide +kernel
theorem dX7_storm_102 : decode cX7_storm 102 = .ok (.iload_n 2, 1) := by decide +kernel
theorem dX7_storm_103 : decode cX7_storm 103 = .ok (.ireturn, 1) := by decide +kernel
theorem dX7_storm_104 : decode cX7_storm 104 = .ok (.iload_n 3, 1) := by decide +kernel
theorem dX7_storm_105 : decode cX7_storm 105 = .ok (.ifCond .ge 11, 3) := by decide +kernel
theorem dX7_storm_108 : decode cX7_storm 108 = .ok (.aload_n 0, 1) := by decide +kernel
theorem dX7_storm_109 : decode cX7_storm 109 = .ok (.iconst 2, 1) := by decide +kernel
theorem dX7_storm_110 : decode cX7_storm 110 = .ok (.invokevirtual 51, 3) := by decide +kernel
theorem dX7_storm_113 : decode cX7_storm 113 = .ok (.goto 4, 3) := by decide +kernel
theorem dX7_storm_116 : decode cX7_storm 116 = .ok (.iload_n 3, 1) := by decide +kernel
theorem dX7_storm_117 : decode cX7_storm 117 = .ok (.ireturn, 1) := by decide +kernel
theorem dX7_saves_0 : decode cX7_saves 0 = .ok (.iload_n 1, 1) := by decide +kernel
theorem dX7_saves_1 : decode cX7_saves 1 = .ok (.invokestatic 95, 3) := by decide +kernel
theorem dX7_saves_4 : decode cX7_saves 4 = .ok (.ifCond .eq 13, 3) := by decide +kernel
theorem dX7_saves_7 : decode cX7_saves 7 = .ok (.iload_n 2, 1) := by decide +kernel
theorem dX7_saves_8 : decode cX7_saves 8 = .ok (.iconst 0, 1) := by decide +kernel
theorem dX7_saves_9 : decode cX7_saves 9 = .ok (.bipush 90, 2) := by decide +kernel
theorem dX7_saves_11 : decode cX7_saves 11 = .ok (.invokestatic 47, 3) := by decide +kernel
theorem dX7_saves_14 : decode cX7_saves 14 = .ok (.ifCond .ne 9, 3) := by decide +kernel
theorem dX7_saves_17 : decode cX7_saves 17 = .ok (.aload_n 0, 1) := by decide +kernel
theorem dX7_saves_18 : decode cX7_saves 18 = .ok (.iconst 1, 1) := by decide +kernel
theorem dX7_saves_19 : decode cX7_saves 19 = .ok (.invokevirtual 51, 3) := by decide +kernel
theorem dX7_saves_22 : decode cX7_saves 22 = .ok (.ireturn, 1) := by decide +kernel
theorem dX7_saves_23 : decode cX7_saves 23 = .ok (.iconst 1, 1) := by decide +kernel
theorem dX7_saves_24 : decode cX7_saves 24 = .ok (.iload_n 1, 1) := by decide +kernel
theorem dX7_saves_25 : decode cX7_saves 25 = .ok (.ishl, 1) := by decide +kernel
theorem dX7_saves_26 : decode cX7_saves 26 = .ok (.istore_n 3, 1) := by decide +kernel
theorem dX7_saves_27 : decode cX7_saves 27 = .ok (.aload_n 0, 1) := by decide +kernel
theorem dX7_saves_28 : decode cX7_saves 28 = .ok (.aload_n 0, 1) := by decide +kernel
theorem dX7_saves_29 : decode cX7_saves 29 = .ok (.getfield 10, 3) := by decide +kernel
theorem dX7_saves_32 : decode cX7_saves 32 = .ok (.getfield 121, 3) := by decide +kernel
theorem dX7_saves_35 : decode cX7_saves 35 = .ok (.iload_n 3, 1) := by decide +kernel
theorem dX7_saves_36 : decode cX7_saves 36 = .ok (.ior, 1) := by decide +kernel
theorem dX7_saves_37 : decode cX7_saves 37 = .ok (.iload_n 2, 1) := by decide +kernel
theorem dX7_saves_38 : decode cX7_saves 38 = .ok (.invokevirtual 190, 3) := by decide +kernel
theorem dX7_saves_41 : decode cX7_saves 41 = .ok (.aload_n 0, 1) := by decide +kernel
theorem dX7_saves_42 : decode cX7_saves 42 = .ok (.aload_n 0, 1) := by decide +kernel
theorem dX7_saves_43 : decode cX7_saves 43 = .ok (.getfield 10, 3) := by decide +kernel
theorem dX7_saves_46 : decode cX7_saves 46 = .ok (.getfield 121, 3) := by decide +kernel
theorem dX7_saves_49 : decode cX7_saves 49 = .ok (.iload_n 3, 1) := by decide +kernel
theorem dX7_saves_50 : decode cX7_saves 50 = .ok (.iconst (-1), 1) := by decide +kernel
theorem dX7_saves_51 : decode cX7_saves 51 = .ok (.ixor, 1) := by decide +kernel
theorem dX7_saves_52 : decode cX7_saves 52 = .ok (.iand, 1) := by decide +kernel
theorem dX7_saves_53 : decode cX7_saves 53 = .ok (.iload_n 2, 1) := by decide +kernel
theorem dX7_saves_54 : decode cX7_saves 54 = .ok (.invokevirtual 190, 3) := by decide +kernel
theorem dX7_saves_57 : decode cX7_saves 57 = .ok (.isub, 1) := by decide +kernel
theorem dX7_saves_58 : decode cX7_saves 58 = .ok (.ireturn, 1) := by decide +kernel
theorem dX7_changes_0 : decode cX7_changes 0 = .ok (.iload_n 1, 1) := by decide +kernel
theorem dX7_changes_1 : decode cX7_changes 1 = .ok (.invokestatic 95, 3) := by decide +kernel
theorem dX7_changes_4 : decode cX7_changes 4 = .ok (.ifCond .eq 14, 3) := by decide +kernel
theorem dX7_changes_7 : decode cX7_changes 7 = .ok (.iload_n 2, 1) := by decide +kernel
theorem dX7_changes_8 : decode cX7_changes 8 = .ok (.iconst 0, 1) := by decide +kernel
theorem dX7_changes_9 : decode cX7_changes 9 = .ok (.sipush 999, 3) := by decide +kernel
theorem dX7_changes_12 : decode cX7_changes 12 = .ok (.invokestatic 47, 3) := by decide +kernel
theorem dX7_changes_15 : decode cX7_changes 15 = .ok (.ifCond .ne 9, 3) := by decide +kernel
theorem dX7_changes_18 : decode cX7_changes 18 = .ok (.aload_n 0, 1) := by decide +kernel
theorem dX7_changes_19 : decode cX7_changes 19 = .ok (.iconst 1, 1) := by decide +kernel
theorem dX7_changes_20 : decode cX7_changes 20 = .ok (.invokevirtual 51, 3) := by decide +kernel
theorem dX7_changes_23 : decode cX7_changes 23 = .ok (.ireturn, 1) := by decide +kernel
theorem dX7_changes_24 : decode cX7_changes 24 = .ok (.iload_n 2, 1) := by decide +kernel
theorem dX7_changes_25 : decode cX7_changes 25 = .ok (.istore_n 3, 1) := by decide +kernel
theorem dX7_changes_26 : decode cX7_changes 26 = .ok (.iconst 0, 1) := by decide +kernel
theorem dX7_changes_27 : decode cX7_changes 27 = .ok (.istore 4, 2) := by decide +kernel
theorem dX7_changes_29 : decode cX7_changes 29 = .ok (.iconst 0, 1) := by decide +kernel
theorem dX7_changes_30 : decode cX7_changes 30 = .ok (.istore 5, 2) := by decide +kernel
theorem dX7_changes_32 : decode cX7_changes 32 = .ok (.iload 5, 2) := by decide +kernel
theorem dX7_changes_34 : decode cX7_changes 34 = .ok (.aload_n 0, 1) := by decide +kernel
theorem dX7_changes_35 : decode cX7_changes 35 = .ok (.getfield 10, 3) := by decide +kernel
theorem dX7_changes_38 : decode cX7_changes 38 = .ok (.getfield 55, 3) := by decide +kernel
theorem dX7_changes_41 : decode cX7_changes 41 = .ok (.if_icmp .ge 59, 3) := by decide +kernel
theorem dX7_changes_44 : decode cX7_changes 44 = .ok (.aload_n 0, 1) := by decide +kernel
theorem dX7_changes_45 : decode cX7_changes 45 = .ok (.getfield 10, 3) := by decide +kernel
theorem dX7_changes_48 : decode cX7_changes 48 = .ok (.getfield 70, 3) := by decide +kernel
theorem dX7_changes_51 : decode cX7_changes 51 = .ok (.iload 5, 2) := by decide +kernel
theorem dX7_changes_53 : decode cX7_changes 53 = .ok (.aaload, 1) := by decide +kernel
theorem dX7_changes_54 : decode cX7_changes 54 = .ok (.astore 6, 2) := by decide +kernel
theorem dX7_changes_56 : decode cX7_changes 56 = .ok (.aload 6, 2) := by decide +kernel
theorem dX7_changes_58 : decode cX7_changes 58 = .ok (.iload_n 1, 1) := by decide +kernel
theorem dX7_changes_59 : decode cX7_changes 59 = .ok (.invokevirtual 98, 3) := by decide +kernel
theorem dX7_changes_62 : decode cX7_changes 62 = .ok (.ifCond .eq 32, 3) := by decide +kernel
theorem dX7_changes_65 : decode cX7_changes 65 = .ok (.iload 4, 2) := by decide +kernel
theorem dX7_changes_67 : decode cX7_changes 67 = .ok (.aload 6, 2) := by decide +kernel
theorem dX7_changes_69 : decode cX7_changes 69 = .ok (.getfield 101, 3) := by decide +kernel
theorem dX7_changes_72 : decode cX7_changes 72 = .ok (.iload_n 1, 1) := by decide +kernel
theorem dX7_changes_73 : decode cX7_changes 73 = .ok (.iaload, 1) := by decide +kernel
theorem dX7_changes_74 : decode cX7_changes 74 = .ok (.iload_n 3, 1) := by decide +kernel
theorem dX7_changes_75 : decode cX7_changes 75 = .ok (.if_icmp .ne 7, 3) := by decide +kernel
theorem dX7_changes_78 : decode cX7_changes 78 = .ok (.iconst 0, 1) := by decide +kernel
theorem dX7_changes_79 : decode cX7_changes 79 = .ok (.goto 4, 3) := by decide +kernel
theorem dX7_changes_82 : decode cX7_changes 82 = .ok (.iconst 1, 1) := by decide +kernel
theorem dX7_changes_83 : decode cX7_changes 83 = .ok (.iadd, 1) := by decide +kernel
theorem dX7_changes_84 : decode cX7_changes 84 = .ok (.istore 4, 2) := by decide +kernel
theorem dX7_changes_86 : decode cX7_changes 86 = .ok (.aload 6, 2) := by decide +kernel
theorem dX7_changes_88 : decode cX7_changes 88 = .ok (.getfield 101, 3) := by decide +kernel
theorem dX7_changes_91 : decode cX7_changes 91 = .ok (.iload_n 1, 1) := by decide +kernel
theorem dX7_changes_92 : decode cX7_changes 92 = .ok (.iaload, 1) := by decide +kernel
theorem dX7_changes_93 : decode cX7_changes 93 = .ok (.istore_n 3, 1) := by decide +kernel
theorem dX7_changes_94 : decode cX7_changes 94 = .ok (.iinc 5 1, 3) := by decide +kernel
theorem dX7_changes_97 : decode cX7_changes 97 = .ok (.goto (-65), 3) := by decide +kernel
theorem dX7_changes_100 : decode cX7_changes 100 = .ok (.iload 4, 2) := by decide +kernel
theorem dX7_changes_102 : decode cX7_changes 102 = .ok (.ireturn, 1) := by decide +kernel
theorem dX7_began_0 : decode cX7_began 0 = .ok (.iload_n 1, 1) := by decide +kernel
theorem dX7_began_1 : decode cX7_began 1 = .ok (.invokestatic 95, 3) := by decide +kernel
theorem dX7_began_4 : decode cX7_began 4 = .ok (.ifCond .eq 14, 3) := by decide +kernel
theorem dX7_began_7 : decode cX7_began 7 = .ok (.iload_n 2, 1) := by decide +kernel
theorem dX7_began_8 : decode cX7_began 8 = .ok (.iconst 0, 1) := by decide +kernel
theorem dX7_began_9 : decode cX7_began 9 = .ok (.sipush 999, 3) := by decide +kernel
theorem dX7_began_12 : decode cX7_began 12 = .ok (.invokestatic 47, 3) := by decide +kernel
theorem dX7_began_15 : decode cX7_began 15 = .ok (.ifCond .ne 9, 3) := by decide +kernel
theorem dX7_began_18 : decode cX7_began 18 = .ok (.aload_n 0, 1) := by decide +kernel
theorem dX7_began_19 : decode cX7_began 19 = .ok (.iconst 1, 1) := by decide +kernel
theorem dX7_began_20 : decode cX7_began 20 = .ok (.invokevirtual 51, 3) := by decide +kernel
theorem dX7_began_23 : decode cX7_began 23 = .ok (.ireturn, 1) := by decide +kernel
theorem dX7_began_24 : decode cX7_began 24 = .ok (.iconst 0, 1) := by decide +kernel
theorem dX7_began_25 : decode cX7_began 25 = .ok (.istore_n 3, 1) := by decide +kernel
theorem dX7_began_26 : decode cX7_began 26 = .ok (.iconst 0, 1) := by decide +kernel
theorem dX7_began_27 : decode cX7_began 27 = .ok (.istore 4, 2) := by decide +kernel
theorem dX7_began_29 : decode cX7_began 29 = .ok (.iconst 0, 1) := by decide +kernel
theorem dX7_began_30 : decode cX7_began 30 = .ok (.istore 5, 2) := by decide +kernel
theorem dX7_began_32 : decode cX7_began 32 = .ok (.iload 5, 2) := by decide +kernel
theorem dX7_began_34 : decode cX7_began 34 = .ok (.aload_n 0, 1) := by decide +kernel
theorem dX7_began_35 : decode cX7_began 35 = .ok (.getfield 10, 3) := by decide +kernel
theorem dX7_began_38 : decode cX7_began 38 = .ok (.getfield 55, 3) := by decide +kernel
theorem dX7_began_41 : decode cX7_began 41 = .ok (.if_icmp .ge 67, 3) := by decide +kernel
theorem dX7_began_44 : decode cX7_began 44 = .ok (.aload_n 0, 1) := by decide +kernel
theorem dX7_began_45 : decode cX7_began 45 = .ok (.getfield 10, 3) := by decide +kernel
theorem dX7_began_48 : decode cX7_began 48 = .ok (.getfield 70, 3) := by decide +kernel
theorem dX7_began_51 : decode cX7_began 51 = .ok (.iload 5, 2) := by decide +kernel
theorem dX7_began_53 : decode cX7_began 53 = .ok (.aaload, 1) := by decide +kernel
theorem dX7_began_54 : decode cX7_began 54 = .ok (.astore 6, 2) := by decide +kernel
theorem dX7_began_56 : decode cX7_began 56 = .ok (.aload 6, 2) := by decide +kernel
theorem dX7_began_58 : decode cX7_began 58 = .ok (.iload_n 1, 1) := by decide +kernel
theorem dX7_began_59 : decode cX7_began 59 = .ok (.invokevirtual 98, 3) := by decide +kernel
theorem dX7_began_62 : decode cX7_began 62 = .ok (.ifCond .eq 40, 3) := by decide +kernel
theorem dX7_began_65 : decode cX7_began 65 = .ok (.aload 6, 2) := by decide +kernel
theorem dX7_began_67 : decode cX7_began 67 = .ok (.getfield 101, 3) := by decide +kernel
theorem dX7_began_70 : decode cX7_began 70 = .ok (.iload_n 1, 1) := by decide +kernel
theorem dX7_began_71 : decode cX7_began 71 = .ok (.iaload, 1) := by decide +kernel
theorem dX7_began_72 : decode cX7_began 72 = .ok (.iload_n 2, 1) := by decide +kernel
theorem dX7_began_73 : decode cX7_began 73 = .ok (.if_icmp .ne 29, 3) := by decide +kernel
theorem dX7_began_76 : decode cX7_began 76 = .ok (.iload_n 3, 1) := by decide +kernel
theorem dX7_began_77 : decode cX7_began 77 = .ok (.ifCond .eq 16, 3) := by decide +kernel
theorem dX7_began_80 : decode cX7_began 80 = .ok (.iload 4, 2) := by decide +kernel
theorem dX7_began_82 : decode cX7_began 82 = .ok (.aload 6, 2) := by decide +kernel
theorem dX7_began_84 : decode cX7_began 84 = .ok (.getfield 193, 3) := by decide +kernel
theorem dX7_began_87 : decode cX7_began 87 = .ok (.invokestatic 196, 3) := by decide +kernel
theorem dX7_began_90 : decode cX7_began 90 = .ok (.goto 8, 3) := by decide +kernel
theorem dX7_began_93 : decode cX7_began 93 = .ok (.aload 6, 2) := by decide +kernel
theorem dX7_began_95 : decode cX7_began 95 = .ok (.getfield 193, 3) := by decide +kernel
theorem dX7_began_98 : decode cX7_began 98 = .ok (.istore 4, 2) := by decide +kernel
theorem dX7_began_100 : decode cX7_began 100 = .ok (.iconst 1, 1) := by decide +kernel
theorem dX7_began_101 : decode cX7_began 101 = .ok (.istore_n 3, 1) := by decide +kernel
theorem dX7_began_102 : decode cX7_began 102 = .ok (.iinc 5 1, 3) := by decide +kernel
theorem dX7_began_105 : decode cX7_began 105 = .ok (.goto (-73), 3) := by decide +kernel
theorem dX7_began_108 : decode cX7_began 108 = .ok (.iload_n 3, 1) := by decide +kernel
theorem dX7_began_109 : decode cX7_began 109 = .ok (.ifCond .eq 8, 3) := by decide +kernel
theorem dX7_began_112 : decode cX7_began 112 = .ok (.iload 4, 2) := by decide +kernel
theorem dX7_began_114 : decode cX7_began 114 = .ok (.goto 8, 3) := by decide +kernel
theorem dX7_began_117 : decode cX7_began 117 = .ok (.aload_n 0, 1) := by decide +kernel
theorem dX7_began_118 : decode cX7_began 118 = .ok (.iconst 2, 1) := by decide +kernel
theorem dX7_began_119 : decode cX7_began 119 = .ok (.invokevirtual 51, 3) := by decide +kernel
theorem dX7_began_122 : decode cX7_began 122 = .ok (.ireturn, 1) := by decide +kernel
theorem dX7_handed_0 : decode cX7_handed 0 = .ok (.aload_n 0, 1) := by decide +kernel
theorem dX7_handed_1 : decode cX7_handed 1 = .ok (.iload_n 1, 1) := by decide +kernel
theorem dX7_handed_2 : decode cX7_handed 2 = .ok (.invokevirtual 62, 3) := by decide +kernel
theorem dX7_handed_5 : decode cX7_handed 5 = .ok (.ifCond .eq 10, 3) := by decide +kernel
theorem dX7_handed_8 : decode cX7_handed 8 = .ok (.iload_n 2, 1) := by decide +kernel
theorem dX7_handed_9 : decode cX7_handed 9 = .ok (.invokestatic 95, 3) := by decide +kernel
theorem dX7_handed_12 : decode cX7_handed 12 = .ok (.ifCond .ne 9, 3) := by decide +kernel
theorem dX7_handed_15 : decode cX7_handed 15 = .ok (.aload_n 0, 1) := by decide +kernel
theorem dX7_handed_16 : decode cX7_handed 16 = .ok (.iconst 1, 1) := by decide +kernel
theorem dX7_handed_17 : decode cX7_handed 17 = .ok (.invokevirtual 51, 3) := by decide +kernel
theorem dX7_handed_20 : decode cX7_handed 20 = .ok (.ireturn, 1) := by decide +kernel
theorem dX7_handed_21 : decode cX7_handed 21 = .ok (.aload_n 0, 1) := by decide +kernel
theorem dX7_handed_22 : decode cX7_handed 22 = .ok (.getfield 10, 3) := by decide +kernel
theorem dX7_handed_25 : decode cX7_handed 25 = .ok (.getfield 70, 3) := by decide +kernel
theorem dX7_handed_28 : decode cX7_handed 28 = .ok (.iload_n 1, 1) := by decide +kernel
theorem dX7_handed_29 : decode cX7_handed 29 = .ok (.aaload, 1) := by decide +kernel
theorem dX7_handed_30 : decode cX7_handed 30 = .ok (.iload_n 2, 1) := by decide +kernel
theorem dX7_handed_31 : decode cX7_handed 31 = .ok (.invokevirtual 98, 3) := by decide +kernel
theorem dX7_handed_34 : decode cX7_handed 34 = .ok (.ifCond .ne 9, 3) := by decide +kernel
theorem dX7_handed_37 : decode cX7_handed 37 = .ok (.aload_n 0, 1) := by decide +kernel
theorem dX7_handed_38 : decode cX7_handed 38 = .ok (.iconst 3, 1) := by decide +kernel
theorem dX7_handed_39 : decode cX7_handed 39 = .ok (.invokevirtual 51, 3) := by decide +kernel
theorem dX7_handed_42 : decode cX7_handed 42 = .ok (.ireturn, 1) := by decide +kernel
theorem dX7_handed_43 : decode cX7_handed 43 = .ok (.iconst 0, 1) := by decide +kernel
theorem dX7_handed_44 : decode cX7_handed 44 = .ok (.istore_n 3, 1) := by decide +kernel
theorem dX7_handed_45 : decode cX7_handed 45 = .ok (.iload_n 3, 1) := by decide +kernel
theorem dX7_handed_46 : decode cX7_handed 46 = .ok (.aload_n 0, 1) := by decide +kernel
theorem dX7_handed_47 : decode cX7_handed 47 = .ok (.getfield 10, 3) := by decide +kernel
theorem dX7_handed_50 : decode cX7_handed 50 = .ok (.getfield 55, 3) := by decide +kernel
theorem dX7_handed_53 : decode cX7_handed 53 = .ok (.iconst 1, 1) := by decide +kernel
theorem dX7_handed_54 : decode cX7_handed 54 = .ok (.isub, 1) := by decide +kernel
theorem dX7_handed_55 : decode cX7_handed 55 = .ok (.if_icmp .ge 35, 3) := by decide +kernel
theorem dX7_handed_58 : decode cX7_handed 58 = .ok (.aload_n 0, 1) := by decide +kernel
theorem dX7_handed_59 : decode cX7_handed 59 = .ok (.getfield 10, 3) := by decide +kernel
theorem dX7_handed_62 : decode cX7_handed 62 = .ok (.getfield 70, 3) := by decide +kernel
theorem dX7_handed_65 : decode cX7_handed 65 = .ok (.iload_n 1, 1) := by decide +kernel
theorem dX7_handed_66 : decode cX7_handed 66 = .ok (.iload_n 3, 1) := by decide +kernel
theorem dX7_handed_67 : decode cX7_handed 67 = .ok (.iadd, 1) := by decide +kernel
theorem dX7_handed_68 : decode cX7_handed 68 = .ok (.aload_n 0, 1) := by decide +kernel
theorem dX7_handed_69 : decode cX7_handed 69 = .ok (.getfield 10, 3) := by decide +kernel
theorem dX7_handed_72 : decode cX7_handed 72 = .ok (.getfield 55, 3) := by decide +kernel
theorem dX7_handed_75 : decode cX7_handed 75 = .ok (.irem, 1) := by decide +kernel
theorem dX7_handed_76 : decode cX7_handed 76 = .ok (.aaload, 1) := by decide +kernel
theorem dX7_handed_77 : decode cX7_handed 77 = .ok (.iconst 2, 1) := by decide +kernel
theorem dX7_handed_78 : decode cX7_handed 78 = .ok (.invokevirtual 74, 3) := by decide +kernel
theorem dX7_handed_81 : decode cX7_handed 81 = .ok (.ifCond .ne 9, 3) := by decide +kernel
theorem dX7_handed_84 : decode cX7_handed 84 = .ok (.iinc 3 1, 3) := by decide +kernel
theorem dX7_handed_87 : decode cX7_handed 87 = .ok (.goto (-42), 3) := by decide +kernel
theorem dX7_handed_90 : decode cX7_handed 90 = .ok (.iload_n 3, 1) := by decide +kernel
theorem dX7_handed_91 : decode cX7_handed 91 = .ok (.ireturn, 1) := by decide +kernel
theorem dX7_wages_0 : decode cX7_wages 0 = .ok (.iload_n 1, 1) := by decide +kernel
theorem dX7_wages_1 : decode cX7_wages 1 = .ok (.iconst 1, 1) := by decide +kernel
theorem dX7_wages_2 : decode cX7_wages 2 = .ok (.bipush 90, 2) := by decide +kernel
theorem dX7_wages_4 : decode cX7_wages 4 = .ok (.invokestatic 47, 3) := by decide +kernel
theorem dX7_wages_7 : decode cX7_wages 7 = .ok (.ifCond .ne 9, 3) := by decide +kernel
theorem dX7_wages_10 : decode cX7_wages 10 = .ok (.aload_n 0, 1) := by decide +kernel
theorem dX7_wages_11 : decode cX7_wages 11 = .ok (.iconst 1, 1) := by decide +kernel
theorem dX7_wages_12 : decode cX7_wages 12 = .ok (.invokevirtual 51, 3) := by decide +kernel
theorem dX7_wages_15 : decode cX7_wages 15 = .ok (.ireturn, 1) := by decide +kernel
theorem dX7_wages_16 : decode cX7_wages 16 = .ok (.aload_n 0, 1) := by decide +kernel
theorem dX7_wages_17 : decode cX7_wages 17 = .ok (.iconst 0, 1) := by decide +kernel
theorem dX7_wages_18 : decode cX7_wages 18 = .ok (.invokevirtual 173, 3) := by decide +kernel
theorem dX7_wages_21 : decode cX7_wages 21 = .ok (.iconst 0, 1) := by decide +kernel
theorem dX7_wages_22 : decode cX7_wages 22 = .ok (.istore_n 2, 1) := by decide +kernel
theorem dX7_wages_23 : decode cX7_wages 23 = .ok (.iconst 0, 1) := by decide +kernel
theorem dX7_wages_24 : decode cX7_wages 24 = .ok (.istore_n 3, 1) := by decide +kernel
theorem dX7_wages_25 : decode cX7_wages 25 = .ok (.iload_n 3, 1) := by decide +kernel
theorem dX7_wages_26 : decode cX7_wages 26 = .ok (.iload_n 1, 1) := by decide +kernel
theorem dX7_wages_27 : decode cX7_wages 27 = .ok (.if_icmp .ge 27, 3) := by decide +kernel
theorem dX7_wages_30 : decode cX7_wages 30 = .ok (.aload_n 0, 1) := by decide +kernel
theorem dX7_wages_31 : decode cX7_wages 31 = .ok (.getfield 19, 3) := by decide +kernel
theorem dX7_wages_34 : decode cX7_wages 34 = .ok (.invokevirtual 160, 3) := by decide +kernel
theorem dX7_wages_37 : decode cX7_wages 37 = .ok (.pop, 1) := by decide +kernel
theorem dX7_wages_38 : decode cX7_wages 38 = .ok (.iload_n 2, 1) := by decide +kernel
theorem dX7_wages_39 : decode cX7_wages 39 = .ok (.aload_n 0, 1) := by decide +kernel
theorem dX7_wages_40 : decode cX7_wages 40 = .ok (.getfield 19, 3) := by decide +kernel
theorem dX7_wages_43 : decode cX7_wages 43 = .ok (.invokevirtual 201, 3) := by decide +kernel
theorem dX7_wages_46 : decode cX7_wages 46 = .ok (.iadd, 1) := by decide +kernel
theorem dX7_wages_47 : decode cX7_wages 47 = .ok (.istore_n 2, 1) := by decide +kernel
theorem dX7_wages_48 : decode cX7_wages 48 = .ok (.iinc 3 1, 3) := by decide +kernel
theorem dX7_wages_51 : decode cX7_wages 51 = .ok (.goto (-26), 3) := by decide +kernel
theorem dX7_wages_54 : decode cX7_wages 54 = .ok (.iload_n 2, 1) := by decide +kernel
theorem dX7_wages_55 : decode cX7_wages 55 = .ok (.ireturn, 1) := by decide +kernel
theorem dX7_voice_0 : decode cX7_voice 0 = .ok (.aload_n 0, 1) := by decide +kernel
theorem dX7_voice_1 : decode cX7_voice 1 = .ok (.iload_n 1, 1) := by decide +kernel
theorem dX7_voice_2 : decode cX7_voice 2 = .ok (.invokevirtual 62, 3) := by decide +kernel
theorem dX7_voice_5 : decode cX7_voice 5 = .ok (.ifCond .eq 12, 3) := by decide +kernel
theorem dX7_voice_8 : decode cX7_voice 8 = .ok (.iload_n 2, 1) := by decide +kernel
theorem dX7_voice_9 : decode cX7_voice 9 = .ok (.iconst 0, 1) := by decide +kernel
theorem dX7_voice_10 : decode cX7_voice 10 = .ok (.iconst 3, 1) := by decide +kernel
theorem dX7_voice_11 : decode cX7_voice 11 = .ok (.invokestatic 47, 3) := by decide +kernel
theorem dX7_voice_14 : decode cX7_voice 14 = .ok (.ifCond .ne 9, 3) := by decide +kernel
theorem dX7_voice_17 : decode cX7_voice 17 = .ok (.aload_n 0, 1) := by decide +kernel
theorem dX7_voice_18 : decode cX7_voice 18 = .ok (.iconst 1, 1) := by decide +kernel
theorem dX7_voice_19 : decode cX7_voice 19 = .ok (.invokevirtual 51, 3) := by decide +kernel
theorem dX7_voice_22 : decode cX7_voice 22 = .ok (.ireturn, 1) := by decide +kernel
theorem dX7_voice_23 : decode cX7_voice 23 = .ok (.aload_n 0, 1) := by decide +kernel
theorem dX7_voice_24 : decode cX7_voice 24 = .ok (.getfield 10, 3) := by decide +kernel
theorem dX7_voice_27 : decode cX7_voice 27 = .ok (.getfield 70, 3) := by decide +kernel
theorem dX7_voice_30 : decode cX7_voice 30 = .ok (.iload_n 1, 1) := by decide +kernel
theorem dX7_voice_31 : decode cX7_voice 31 = .ok (.aaload, 1) := by decide +kernel
theorem dX7_voice_32 : decode cX7_voice 32 = .ok (.astore 4, 2) := by decide +kernel
theorem dX7_voice_34 : decode cX7_voice 34 = .ok (.aload_n 0, 1) := by decide +kernel
theorem dX7_voice_35 : decode cX7_voice 35 = .ok (.getfield 32, 3) := by decide +kernel
theorem dX7_voice_38 : decode cX7_voice 38 = .ok (.aload 4, 2) := by decide +kernel
theorem dX7_voice_40 : decode cX7_voice 40 = .ok (.getfield 86, 3) := by decide +kernel
theorem dX7_voice_43 : decode cX7_voice 43 = .ok (.iload_n 1, 1) := by decide +kernel
theorem dX7_voice_44 : decode cX7_voice 44 = .ok (.aload 4, 2) := by decide +kernel
theorem dX7_voice_46 : decode cX7_voice 46 = .ok (.getfield 89, 3) := by decide +kernel
theorem dX7_voice_49 : decode cX7_voice 49 = .ok (.iload_n 2, 1) := by decide +kernel
theorem dX7_voice_50 : decode cX7_voice 50 = .ok (.iload_n 3, 1) := by decide +kernel
theorem dX7_voice_51 : decode cX7_voice 51 = .ok (.invokevirtual 204, 3) := by decide +kernel
theorem dX7_voice_54 : decode cX7_voice 54 = .ok (.istore 5, 2) := by decide +kernel
theorem dX7_voice_56 : decode cX7_voice 56 = .ok (.aload_n 0, 1) := by decide +kernel
theorem dX7_voice_57 : decode cX7_voice 57 = .ok (.getfield 32, 3) := by decide +kernel
theorem dX7_voice_60 : decode cX7_voice 60 = .ok (.getfield 208, 3) := by decide +kernel
theorem dX7_voice_63 : decode cX7_voice 63 = .ok (.ifCond .eq 12, 3) := by decide +kernel
theorem dX7_voice_66 : decode cX7_voice 66 = .ok (.aload_n 0, 1) := by decide +kernel
theorem dX7_voice_67 : decode cX7_voice 67 = .ok (.bipush 6, 2) := by decide +kernel
theorem dX7_voice_69 : decode cX7_voice 69 = .ok (.invokevirtual 51, 3) := by decide +kernel
theorem dX7_voice_72 : decode cX7_voice 72 = .ok (.goto 5, 3) := by decide +kernel
theorem dX7_voice_75 : decode cX7_voice 75 = .ok (.iload 5, 2) := by decide +kernel
theorem dX7_voice_77 : decode cX7_voice 77 = .ok (.ireturn, 1) := by decide +kernel
theorem dX7_body_0 : decode cX7_body 0 = .ok (.iload_n 1, 1) := by decide +kernel
theorem dX7_body_1 : decode cX7_body 1 = .ok (.iconst 0, 1) := by decide +kernel
theorem dX7_body_2 : decode cX7_body 2 = .ok (.aload_n 0, 1) := by decide +kernel
theorem dX7_body_3 : decode cX7_body 3 = .ok (.getfield 32, 3) := by decide +kernel
theorem dX7_body_6 : decode cX7_body 6 = .ok (.getfield 212, 3) := by decide +kernel
theorem dX7_body_9 : decode cX7_body 9 = .ok (.iconst 1, 1) := by decide +kernel
theorem dX7_body_10 : decode cX7_body 10 = .ok (.isub, 1) := by decide +kernel
theorem dX7_body_11 : decode cX7_body 11 = .ok (.invokestatic 47, 3) := by decide +kernel
theorem dX7_body_14 : decode cX7_body 14 = .ok (.ifCond .eq 15, 3) := by decide +kernel
theorem dX7_body_17 : decode cX7_body 17 = .ok (.aload_n 0, 1) := by decide +kernel
theorem dX7_body_18 : decode cX7_body 18 = .ok (.getfield 32, 3) := by decide +kernel
theorem dX7_body_21 : decode cX7_body 21 = .ok (.getfield 215, 3) := by decide +kernel
theorem dX7_body_24 : decode cX7_body 24 = .ok (.iload_n 1, 1) := by decide +kernel
theorem dX7_body_25 : decode cX7_body 25 = .ok (.iaload, 1) := by decide +kernel
theorem dX7_body_26 : decode cX7_body 26 = .ok (.goto 8, 3) := by decide +kernel
theorem dX7_body_29 : decode cX7_body 29 = .ok (.aload_n 0, 1) := by decide +kernel
theorem dX7_body_30 : decode cX7_body 30 = .ok (.iconst 2, 1) := by decide +kernel
theorem dX7_body_31 : decode cX7_body 31 = .ok (.invokevirtual 51, 3) := by decide +kernel
theorem dX7_body_34 : decode cX7_body 34 = .ok (.ireturn, 1) := by decide +kernel
theorem dX7_sheet_0 : decode cX7_sheet 0 = .ok (.iload_n 1, 1) := by decide +kernel
theorem dX7_sheet_1 : decode cX7_sheet 1 = .ok (.invokestatic 218, 3) := by decide +kernel
theorem dX7_sheet_4 : decode cX7_sheet 4 = .ok (.ifCond .eq 25, 3) := by decide +kernel
theorem dX7_sheet_7 : decode cX7_sheet 7 = .ok (.iload_n 2, 1) := by decide +kernel
theorem dX7_sheet_8 : decode cX7_sheet 8 = .ok (.ifCond .eq 27, 3) := by decide +kernel
theorem dX7_sheet_11 : decode cX7_sheet 11 = .ok (.iload_n 2, 1) := by decide +kernel
theorem dX7_sheet_12 : decode cX7_sheet 12 = .ok (.bipush 8, 2) := by decide +kernel
theorem dX7_sheet_14 : decode cX7_sheet 14 = .ok (.if_icmp .eq 21, 3) := by decide +kernel
theorem dX7_sheet_17 : decode cX7_sheet 17 = .ok (.iload_n 2, 1) := by decide +kernel
theorem dX7_sheet_18 : decode cX7_sheet 18 = .ok (.bipush 16, 2) := by decide +kernel
theorem dX7_sheet_20 : decode cX7_sheet 20 = .ok (.if_icmp .eq 15, 3) := by decide +kernel
theorem dX7_sheet_23 : decode cX7_sheet 23 = .ok (.iload_n 2, 1) := by decide +kernel
theorem dX7_sheet_24 : decode cX7_sheet 24 = .ok (.bipush 32, 2) := by decide +kernel
theorem dX7_sheet_26 : decode cX7_sheet 26 = .ok (.if_icmp .eq 9, 3) := by decide +kernel
theorem dX7_sheet_29 : decode cX7_sheet 29 = .ok (.aload_n 0, 1) := by decide +kernel
theorem dX7_sheet_30 : decode cX7_sheet 30 = .ok (.iconst 1, 1) := by decide +kernel
theorem dX7_sheet_31 : decode cX7_sheet 31 = .ok (.invokevirtual 51, 3) := by decide +kernel
theorem dX7_sheet_34 : decode cX7_sheet 34 = .ok (.ireturn, 1) := by decide +kernel
theorem dX7_sheet_35 : decode cX7_sheet 35 = .ok (.iload_n 2, 1) := by decide +kernel
theorem dX7_sheet_36 : decode cX7_sheet 36 = .ok (.ifCond .eq 13, 3) := by decide +kernel
theorem dX7_sheet_39 : decode cX7_sheet 39 = .ok (.iload_n 3, 1) := by decide +kernel
theorem dX7_sheet_40 : decode cX7_sheet 40 = .ok (.ifCond .ge 9, 3) := by decide +kernel
theorem dX7_sheet_43 : decode cX7_sheet 43 = .ok (.aload_n 0, 1) := by decide +kernel
theorem dX7_sheet_44 : decode cX7_sheet 44 = .ok (.iconst 3, 1) := by decide +kernel
theorem dX7_sheet_45 : decode cX7_sheet 45 = .ok (.invokevirtual 51, 3) := by decide +kernel
theorem dX7_sheet_48 : decode cX7_sheet 48 = .ok (.ireturn, 1) := by decide +kernel
theorem dX7_sheet_49 : decode cX7_sheet 49 = .ok (.iload_n 2, 1) := by decide +kernel
theorem dX7_sheet_50 : decode cX7_sheet 50 = .ok (.ifCond .eq 15, 3) := by decide +kernel
theorem dX7_sheet_53 : decode cX7_sheet 53 = .ok (.iload_n 3, 1) := by decide +kernel
theorem dX7_sheet_54 : decode cX7_sheet 54 = .ok (.bipush 24, 2) := by decide +kernel
theorem dX7_sheet_56 : decode cX7_sheet 56 = .ok (.if_icmp .le 9, 3) := by decide +kernel
theorem dX7_sheet_59 : decode cX7_sheet 59 = .ok (.aload_n 0, 1) := by decide +kernel
theorem dX7_sheet_60 : decode cX7_sheet 60 = .ok (.iconst 1, 1) := by decide +kernel
theorem dX7_sheet_61 : decode cX7_sheet 61 = .ok (.invokevirtual 51, 3) := by decide +kernel
theorem dX7_sheet_64 : decode cX7_sheet 64 = .ok (.ireturn, 1) := by decide +kernel
theorem dX7_sheet_65 : decode cX7_sheet 65 = .ok (.aload_n 0, 1) := by decide +kernel
theorem dX7_sheet_66 : decode cX7_sheet 66 = .ok (.getfield 38, 3) := by decide +kernel
theorem dX7_sheet_69 : decode cX7_sheet 69 = .ok (.iload_n 1, 1) := by decide +kernel
theorem dX7_sheet_70 : decode cX7_sheet 70 = .ok (.aaload, 1) := by decide +kernel
theorem dX7_sheet_71 : decode cX7_sheet 71 = .ok (.iload_n 2, 1) := by decide +kernel
theorem dX7_sheet_72 : decode cX7_sheet 72 = .ok (.iload_n 2, 1) := by decide +kernel
theorem dX7_sheet_73 : decode cX7_sheet 73 = .ok (.ifCond .ne 7, 3) := by decide +kernel
theorem dX7_sheet_76 : decode cX7_sheet 76 = .ok (.iconst 0, 1) := by decide +kernel
theorem dX7_sheet_77 : decode cX7_sheet 77 = .ok (.goto 4, 3) := by decide +kernel
theorem dX7_sheet_80 : decode cX7_sheet 80 = .ok (.iload_n 3, 1) := by decide +kernel
theorem dX7_sheet_81 : decode cX7_sheet 81 = .ok (.invokevirtual 221, 3) := by decide +kernel
theorem dX7_sheet_84 : decode cX7_sheet 84 = .ok (.iconst 1, 1) := by decide +kernel
theorem dX7_sheet_85 : decode cX7_sheet 85 = .ok (.ireturn, 1) := by decide +kernel
theorem dX7_put_0 : decode cX7_put 0 = .ok (.iload_n 1, 1) := by decide +kernel
theorem dX7_put_1 : decode cX7_put 1 = .ok (.invokestatic 218, 3) := by decide +kernel
theorem dX7_put_4 : decode cX7_put 4 = .ok (.ifCond .ne 9, 3) := by decide +kernel
theorem dX7_put_7 : decode cX7_put 7 = .ok (.aload_n 0, 1) := by decide +kernel
theorem dX7_put_8 : decode cX7_put 8 = .ok (.iconst 1, 1) := by decide +kernel
theorem dX7_put_9 : decode cX7_put 9 = .ok (.invokevirtual 51, 3) := by decide +kernel
theorem dX7_put_12 : decode cX7_put 12 = .ok (.ireturn, 1) := by decide +kernel
theorem dX7_put_13 : decode cX7_put 13 = .ok (.aload_n 0, 1) := by decide +kernel
theorem dX7_put_14 : decode cX7_put 14 = .ok (.getfield 38, 3) := by decide +kernel
theorem dX7_put_17 : decode cX7_put 17 = .ok (.iload_n 1, 1) := by decide +kernel
theorem dX7_put_18 : decode cX7_put 18 = .ok (.aaload, 1) := by decide +kernel
theorem dX7_put_19 : decode cX7_put 19 = .ok (.astore 4, 2) := by decide +kernel
theorem dX7_put_21 : decode cX7_put 21 = .ok (.aload 4, 2) := by decide +kernel
theorem dX7_put_23 : decode cX7_put 23 = .ok (.invokevirtual 224, 3) := by decide +kernel
theorem dX7_put_26 : decode cX7_put 26 = .ok (.ifCond .eq 9, 3) := by decide +kernel
theorem dX7_put_29 : decode cX7_put 29 = .ok (.aload_n 0, 1) := by decide +kernel
theorem dX7_put_30 : decode cX7_put 30 = .ok (.iconst 2, 1) := by decide +kernel
theorem dX7_put_31 : decode cX7_put 31 = .ok (.invokevirtual 51, 3) := by decide +kernel
theorem dX7_put_34 : decode cX7_put 34 = .ok (.ireturn, 1) := by decide +kernel
theorem dX7_put_35 : decode cX7_put 35 = .ok (.iload_n 2, 1) := by decide +kernel
theorem dX7_put_36 : decode cX7_put 36 = .ok (.iconst 0, 1) := by decide +kernel
theorem dX7_put_37 : decode cX7_put 37 = .ok (.aload 4, 2) := by decide +kernel
theorem dX7_put_39 : decode cX7_put 39 = .ok (.getfield 228, 3) := by decide +kernel
theorem dX7_put_42 : decode cX7_put 42 = .ok (.iconst 1, 1) := by decide +kernel
theorem dX7_put_43 : decode cX7_put 43 = .ok (.isub, 1) := by decide +kernel
theorem dX7_put_44 : decode cX7_put 44 = .ok (.invokestatic 47, 3) := by decide +kernel
theorem dX7_put_47 : decode cX7_put 47 = .ok (.ifCond .ne 9, 3) := by decide +kernel
theorem dX7_put_50 : decode cX7_put 50 = .ok (.aload_n 0, 1) := by decide +kernel
theorem dX7_put_51 : decode cX7_put 51 = .ok (.iconst 1, 1) := by decide +kernel
theorem dX7_put_52 : decode cX7_put 52 = .ok (.invokevirtual 51, 3) := by decide +kernel
theorem dX7_put_55 : decode cX7_put 55 = .ok (.ireturn, 1) := by decide +kernel
theorem dX7_put_56 : decode cX7_put 56 = .ok (.aload 4, 2) := by decide +kernel
theorem dX7_put_58 : decode cX7_put 58 = .ok (.iload_n 2, 1) := by decide +kernel
theorem dX7_put_59 : decode cX7_put 59 = .ok (.iload_n 3, 1) := by decide +kernel
theorem dX7_put_60 : decode cX7_put 60 = .ok (.invokevirtual 231, 3) := by decide +kernel
theorem dX7_put_63 : decode cX7_put 63 = .ok (.iconst 1, 1) := by decide +kernel
theorem dX7_put_64 : decode cX7_put 64 = .ok (.ireturn, 1) := by decide +kernel
theorem dX7_move_0 : decode cX7_move 0 = .ok (.iload_n 1, 1) := by decide +kernel
theorem dX7_move_1 : decode cX7_move 1 = .ok (.invokestatic 218, 3) := by decide +kernel
theorem dX7_move_4 : decode cX7_move 4 = .ok (.ifCond .eq 10, 3) := by decide +kernel
theorem dX7_move_7 : decode cX7_move 7 = .ok (.iload_n 3, 1) := by decide +kernel
theorem dX7_move_8 : decode cX7_move 8 = .ok (.invokestatic 218, 3) := by decide +kernel
theorem dX7_move_11 : decode cX7_move 11 = .ok (.ifCond .ne 9, 3) := by decide +kernel
theorem dX7_move_14 : decode cX7_move 14 = .ok (.aload_n 0, 1) := by decide +kernel
theorem dX7_move_15 : decode cX7_move 15 = .ok (.iconst 1, 1) := by decide +kernel
theorem dX7_move_16 : decode cX7_move 16 = .ok (.invokevirtual 51, 3) := by decide +kernel
theorem dX7_move_19 : decode cX7_move 19 = .ok (.ireturn, 1) := by decide +kernel
theorem dX7_move_20 : decode cX7_move 20 = .ok (.aload_n 0, 1) := by decide +kernel
theorem dX7_move_21 : decode cX7_move 21 = .ok (.getfield 38, 3) := by decide +kernel
theorem dX7_move_24 : decode cX7_move 24 = .ok (.iload_n 1, 1) := by decide +kernel
theorem dX7_move_25 : decode cX7_move 25 = .ok (.aaload, 1) := by decide +kernel
theorem dX7_move_26 : decode cX7_move 26 = .ok (.astore 6, 2) := by decide +kernel
theorem dX7_move_28 : decode cX7_move 28 = .ok (.aload_n 0, 1) := by decide +kernel
theorem dX7_move_29 : decode cX7_move 29 = .ok (.getfield 38, 3) := by decide +kernel
theorem dX7_move_32 : decode cX7_move 32 = .ok (.iload_n 3, 1) := by decide +kernel
theorem dX7_move_33 : decode cX7_move 33 = .ok (.aaload, 1) := by decide +kernel
theorem dX7_move_34 : decode cX7_move 34 = .ok (.astore 7, 2) := by decide +kernel
theorem dX7_move_36 : decode cX7_move 36 = .ok (.aload 6, 2) := by decide +kernel
theorem dX7_move_38 : decode cX7_move 38 = .ok (.invokevirtual 224, 3) := by decide +kernel
theorem dX7_move_41 : decode cX7_move 41 = .ok (.ifCond .ne 11, 3) := by decide +kernel
theorem dX7_move_44 : decode cX7_move 44 = .ok (.aload 7, 2) := by decide +kernel
theorem dX7_move_46 : decode cX7_move 46 = .ok (.invokevirtual 224, 3) := by decide +kernel
theorem dX7_move_49 : decode cX7_move 49 = .ok (.ifCond .eq 9, 3) := by decide +kernel
theorem dX7_move_52 : decode cX7_move 52 = .ok (.aload_n 0, 1) := by decide +kernel
theorem dX7_move_53 : decode cX7_move 53 = .ok (.iconst 2, 1) := by decide +kernel
theorem dX7_move_54 : decode cX7_move 54 = .ok (.invokevirtual 51, 3) := by decide +kernel
theorem dX7_move_57 : decode cX7_move 57 = .ok (.ireturn, 1) := by decide +kernel
theorem dX7_move_58 : decode cX7_move 58 = .ok (.aload 6, 2) := by decide +kernel
theorem dX7_move_60 : decode cX7_move 60 = .ok (.getfield 234, 3) := by decide +kernel
theorem dX7_move_63 : decode cX7_move 63 = .ok (.aload 7, 2) := by decide +kernel
theorem dX7_move_65 : decode cX7_move 65 = .ok (.getfield 234, 3) := by decide +kernel
theorem dX7_move_68 : decode cX7_move 68 = .ok (.if_icmp .eq 9, 3) := by decide +kernel
theorem dX7_move_71 : decode cX7_move 71 = .ok (.aload_n 0, 1) := by decide +kernel
theorem dX7_move_72 : decode cX7_move 72 = .ok (.iconst 5, 1) := by decide +kernel
theorem dX7_move_73 : decode cX7_move 73 = .ok (.invokevirtual 51, 3) := by decide +kernel
theorem dX7_move_76 : decode cX7_move 76 = .ok (.ireturn, 1) := by decide +kernel
theorem dX7_move_77 : decode cX7_move 77 = .ok (.aload 6, 2) := by decide +kernel
theorem dX7_move_79 : decode cX7_move 79 = .ok (.iload_n 2, 1) := by decide +kernel
theorem dX7_move_80 : decode cX7_move 80 = .ok (.iload 5, 2) := by decide +kernel
theorem dX7_move_82 : decode cX7_move 82 = .ok (.invokevirtual 237, 3) := by decide +kernel
theorem dX7_move_85 : decode cX7_move 85 = .ok (.ifCond .eq 15, 3) := by decide +kernel
theorem dX7_move_88 : decode cX7_move 88 = .ok (.aload 7, 2) := by decide +kernel
theorem dX7_move_90 : decode cX7_move 90 = .ok (.iload 4, 2) := by decide +kernel
theorem dX7_move_92 : decode cX7_move 92 = .ok (.iload 5, 2) := by decide +kernel
theorem dX7_move_94 : decode cX7_move 94 = .ok (.invokevirtual 237, 3) := by decide +kernel
theorem dX7_move_97 : decode cX7_move 97 = .ok (.ifCond .ne 9, 3) := by decide +kernel
theorem dX7_move_100 : decode cX7_move 100 = .ok (.aload_n 0, 1) := by decide +kernel
theorem dX7_move_101 : decode cX7_move 101 = .ok (.iconst 1, 1) := by decide +kernel
theorem dX7_move_102 : decode cX7_move 102 = .ok (.invokevirtual 51, 3) := by decide +kernel
theorem dX7_move_105 : decode cX7_move 105 = .ok (.ireturn, 1) := by decide +kernel
theorem dX7_move_106 : decode cX7_move 106 = .ok (.aload 6, 2) := by decide +kernel
theorem dX7_move_108 : decode cX7_move 108 = .ok (.getfield 240, 3) := by decide +kernel
theorem dX7_move_111 : decode cX7_move 111 = .ok (.iload_n 2, 1) := by decide +kernel
theorem dX7_move_112 : decode cX7_move 112 = .ok (.aload 7, 2) := by decide +kernel
theorem dX7_move_114 : decode cX7_move 114 = .ok (.getfield 240, 3) := by decide +kernel
theorem dX7_move_117 : decode cX7_move 117 = .ok (.iload 4, 2) := by decide +kernel
theorem dX7_move_119 : decode cX7_move 119 = .ok (.iload 5, 2) := by decide +kernel
theorem dX7_move_121 : decode cX7_move 121 = .ok (.invokestatic 243, 3) := by decide +kernel
theorem dX7_move_124 : decode cX7_move 124 = .ok (.iload 5, 2) := by decide +kernel
theorem dX7_move_126 : decode cX7_move 126 = .ok (.ireturn, 1) := by decide +kernel
theorem dX7_rosters_0 : decode cX7_rosters 0 = .ok (.iload_n 1, 1) := by decide +kernel
theorem dX7_rosters_1 : decode cX7_rosters 1 = .ok (.invokestatic 218, 3) := by decide +kernel
theorem dX7_rosters_4 : decode cX7_rosters 4 = .ok (.ifCond .ne 9, 3) := by decide +kernel
theorem dX7_rosters_7 : decode cX7_rosters 7 = .ok (.aload_n 0, 1) := by decide +kernel
theorem dX7_rosters_8 : decode cX7_rosters 8 = .ok (.iconst 1, 1) := by decide +kernel
theorem dX7_rosters_9 : decode cX7_rosters 9 = .ok (.invokevirtual 51, 3) := by decide +kernel
theorem dX7_rosters_12 : decode cX7_rosters 12 = .ok (.ireturn, 1) := by decide +kernel
theorem dX7_rosters_13 : decode cX7_rosters 13 = .ok (.aload_n 0, 1) := by decide +kernel
theorem dX7_rosters_14 : decode cX7_rosters 14 = .ok (.getfield 38, 3) := by decide +kernel
theorem dX7_rosters_17 : decode cX7_rosters 17 = .ok (.iload_n 1, 1) := by decide +kernel
theorem dX7_rosters_18 : decode cX7_rosters 18 = .ok (.aaload, 1) := by decide +kernel
theorem dX7_rosters_19 : decode cX7_rosters 19 = .ok (.astore_n 2, 1) := by decide +kernel
theorem dX7_rosters_20 : decode cX7_rosters 20 = .ok (.aload_n 2, 1) := by decide +kernel
theorem dX7_rosters_21 : decode cX7_rosters 21 = .ok (.invokevirtual 224, 3) := by decide +kernel
theorem dX7_rosters_24 : decode cX7_rosters 24 = .ok (.ifCond .eq 9, 3) := by decide +kernel
theorem dX7_rosters_27 : decode cX7_rosters 27 = .ok (.aload_n 0, 1) := by decide +kernel
theorem dX7_rosters_28 : decode cX7_rosters 28 = .ok (.iconst 2, 1) := by decide +kernel
theorem dX7_rosters_29 : decode cX7_rosters 29 = .ok (.invokevirtual 51, 3) := by decide +kernel
theorem dX7_rosters_32 : decode cX7_rosters 32 = .ok (.ireturn, 1) := by decide +kernel
theorem dX7_rosters_33 : decode cX7_rosters 33 = .ok (.iconst 0, 1) := by decide +kernel
theorem dX7_rosters_34 : decode cX7_rosters 34 = .ok (.istore_n 3, 1) := by decide +kernel
theorem dX7_rosters_35 : decode cX7_rosters 35 = .ok (.iconst 0, 1) := by decide +kernel
theorem dX7_rosters_36 : decode cX7_rosters 36 = .ok (.istore 4, 2) := by decide +kernel
theorem dX7_rosters_38 : decode cX7_rosters 38 = .ok (.iload 4, 2) := by decide +kernel
theorem dX7_rosters_40 : decode cX7_rosters 40 = .ok (.iconst 1, 1) := by decide +kernel
theorem dX7_rosters_41 : decode cX7_rosters 41 = .ok (.iadd, 1) := by decide +kernel
theorem dX7_rosters_42 : decode cX7_rosters 42 = .ok (.aload_n 2, 1) := by decide +kernel
theorem dX7_rosters_43 : decode cX7_rosters 43 = .ok (.getfield 228, 3) := by decide +kernel
theorem dX7_rosters_46 : decode cX7_rosters 46 = .ok (.if_icmp .ge 69, 3) := by decide +kernel
theorem dX7_rosters_49 : decode cX7_rosters 49 = .ok (.aload_n 2, 1) := by decide +kernel
theorem dX7_rosters_50 : decode cX7_rosters 50 = .ok (.getfield 240, 3) := by decide +kernel
theorem dX7_rosters_53 : decode cX7_rosters 53 = .ok (.iload 4, 2) := by decide +kernel
theorem dX7_rosters_55 : decode cX7_rosters 55 = .ok (.iaload, 1) := by decide +kernel
theorem dX7_rosters_56 : decode cX7_rosters 56 = .ok (.istore 5, 2) := by decide +kernel
theorem dX7_rosters_58 : decode cX7_rosters 58 = .ok (.aload_n 2, 1) := by decide +kernel
theorem dX7_rosters_59 : decode cX7_rosters 59 = .ok (.getfield 240, 3) := by decide +kernel
theorem dX7_rosters_62 : decode cX7_rosters 62 = .ok (.iload 4, 2) := by decide +kernel
theorem dX7_rosters_64 : decode cX7_rosters 64 = .ok (.iconst 1, 1) := by decide +kernel
theorem dX7_rosters_65 : decode cX7_rosters 65 = .ok (.iadd, 1) := by decide +kernel
theorem dX7_rosters_66 : decode cX7_rosters 66 = .ok (.iaload, 1) := by decide +kernel
theorem dX7_rosters_67 : decode cX7_rosters 67 = .ok (.istore 6, 2) := by decide +kernel
theorem dX7_rosters_69 : decode cX7_rosters 69 = .ok (.iload 5, 2) := by decide +kernel
theorem dX7_rosters_71 : decode cX7_rosters 71 = .ok (.iload 6, 2) := by decide +kernel
theorem dX7_rosters_73 : decode cX7_rosters 73 = .ok (.invokestatic 112, 3) := by decide +kernel
theorem dX7_rosters_76 : decode cX7_rosters 76 = .ok (.ifCond .eq 39, 3) := by decide +kernel
theorem dX7_rosters_79 : decode cX7_rosters 79 = .ok (.aload_n 0, 1) := by decide +kernel
theorem dX7_rosters_80 : decode cX7_rosters 80 = .ok (.getfield 10, 3) := by decide +kernel
theorem dX7_rosters_83 : decode cX7_rosters 83 = .ok (.getfield 115, 3) := by decide +kernel
theorem dX7_rosters_86 : decode cX7_rosters 86 = .ok (.bipush 12, 2) := by decide +kernel
theorem dX7_rosters_88 : decode cX7_rosters 88 = .ok (.if_icmp .lt 6, 3) := by decide +kernel
theorem dX7_rosters_91 : decode cX7_rosters 91 = .ok (.goto 24, 3) := by decide +kernel
theorem dX7_rosters_94 : decode cX7_rosters 94 = .ok (.aload_n 0, 1) := by decide +kernel
theorem dX7_rosters_95 : decode cX7_rosters 95 = .ok (.getfield 10, 3) := by decide +kernel
theorem dX7_rosters_98 : decode cX7_rosters 98 = .ok (.iload 5, 2) := by decide +kernel
theorem dX7_rosters_100 : decode cX7_rosters 100 = .ok (.iload 6, 2) := by decide +kernel
theorem dX7_rosters_102 : decode cX7_rosters 102 = .ok (.invokevirtual 118, 3) := by decide +kernel
theorem dX7_rosters_105 : decode cX7_rosters 105 = .ok (.pop, 1) := by decide +kernel
theorem dX7_rosters_106 : decode cX7_rosters 106 = .ok (.iinc 3 1, 3) := by decide +kernel
theorem dX7_rosters_109 : decode cX7_rosters 109 = .ok (.iinc 4 2, 3) := by decide +kernel
theorem dX7_rosters_112 : decode cX7_rosters 112 = .ok (.goto (-74), 3) := by decide +kernel
theorem dX7_rosters_115 : decode cX7_rosters 115 = .ok (.iload_n 3, 1) := by decide +kernel
theorem dX7_rosters_116 : decode cX7_rosters 116 = .ok (.ireturn, 1) := by decide +kernel
theorem dX7_judge_0 : decode cX7_judge 0 = .ok (.iload_n 1, 1) := by decide +kernel
theorem dX7_judge_1 : decode cX7_judge 1 = .ok (.invokestatic 218, 3) := by decide +kernel
theorem dX7_judge_4 : decode cX7_judge 4 = .ok (.ifCond .ne 9, 3) := by decide +kernel
theorem dX7_judge_7 : decode cX7_judge 7 = .ok (.aload_n 0, 1) := by decide +kernel
theorem dX7_judge_8 : decode cX7_judge 8 = .ok (.iconst 1, 1) := by decide +kernel
theorem dX7_judge_9 : decode cX7_judge 9 = .ok (.invokevirtual 51, 3) := by decide +kernel
theorem dX7_judge_12 : decode cX7_judge 12 = .ok (.ireturn, 1) := by decide +kernel
theorem dX7_judge_13 : decode cX7_judge 13 = .ok (.aload_n 0, 1) := by decide +kernel
theorem dX7_judge_14 : decode cX7_judge 14 = .ok (.getfield 38, 3) := by decide +kernel
theorem dX7_judge_17 : decode cX7_judge 17 = .ok (.iload_n 1, 1) := by decide +kernel
theorem dX7_judge_18 : decode cX7_judge 18 = .ok (.aaload, 1) := by decide +kernel
theorem dX7_judge_19 : decode cX7_judge 19 = .ok (.astore_n 2, 1) := by decide +kernel
theorem dX7_judge_20 : decode cX7_judge 20 = .ok (.aload_n 2, 1) := by decide +kernel
theorem dX7_judge_21 : decode cX7_judge 21 = .ok (.invokevirtual 224, 3) := by decide +kernel
theorem dX7_judge_24 : decode cX7_judge 24 = .ok (.ifCond .eq 9, 3) := by decide +kernel
theorem dX7_judge_27 : decode cX7_judge 27 = .ok (.aload_n 0, 1) := by decide +kernel
theorem dX7_judge_28 : decode cX7_judge 28 = .ok (.iconst 2, 1) := by decide +kernel
theorem dX7_judge_29 : decode cX7_judge 29 = .ok (.invokevirtual 51, 3) := by decide +kernel
theorem dX7_judge_32 : decode cX7_judge 32 = .ok (.ireturn, 1) := by decide +kernel
theorem dX7_judge_33 : decode cX7_judge 33 = .ok (.aload_n 2, 1) := by decide +kernel
theorem dX7_judge_34 : decode cX7_judge 34 = .ok (.getfield 228, 3) := by decide +kernel
theorem dX7_judge_37 : decode cX7_judge 37 = .ok (.aload_n 0, 1) := by decide +kernel
theorem dX7_judge_38 : decode cX7_judge 38 = .ok (.getfield 10, 3) := by decide +kernel
theorem dX7_judge_41 : decode cX7_judge 41 = .ok (.getfield 55, 3) := by decide +kernel
theorem dX7_judge_44 : decode cX7_judge 44 = .ok (.invokestatic 196, 3) := by decide +kernel
theorem dX7_judge_47 : decode cX7_judge 47 = .ok (.istore_n 3, 1) := by decide +kernel
theorem dX7_judge_48 : decode cX7_judge 48 = .ok (.iconst 0, 1) := by decide +kernel
theorem dX7_judge_49 : decode cX7_judge 49 = .ok (.istore 4, 2) := by decide +kernel
theorem dX7_judge_51 : decode cX7_judge 51 = .ok (.iload 4, 2) := by decide +kernel
theorem dX7_judge_53 : decode cX7_judge 53 = .ok (.iload_n 3, 1) := by decide +kernel
theorem dX7_judge_54 : decode cX7_judge 54 = .ok (.if_icmp .ge 35, 3) := by decide +kernel
theorem dX7_judge_57 : decode cX7_judge 57 = .ok (.aload_n 2, 1) := by decide +kernel
theorem dX7_judge_58 : decode cX7_judge 58 = .ok (.getfield 240, 3) := by decide +kernel
theorem dX7_judge_61 : decode cX7_judge 61 = .ok (.iload 4, 2) := by decide +kernel
theorem dX7_judge_63 : decode cX7_judge 63 = .ok (.iaload, 1) := by decide +kernel
theorem dX7_judge_64 : decode cX7_judge 64 = .ok (.aload_n 0, 1) := by decide +kernel
theorem dX7_judge_65 : decode cX7_judge 65 = .ok (.getfield 10, 3) := by decide +kernel
theorem dX7_judge_68 : decode cX7_judge 68 = .ok (.getfield 70, 3) := by decide +kernel
theorem dX7_judge_71 : decode cX7_judge 71 = .ok (.iload 4, 2) := by decide +kernel
theorem dX7_judge_73 : decode cX7_judge 73 = .ok (.aaload, 1) := by decide +kernel
theorem dX7_judge_74 : decode cX7_judge 74 = .ok (.getfield 79, 3) := by decide +kernel
theorem dX7_judge_77 : decode cX7_judge 77 = .ok (.if_icmp .eq 6, 3) := by decide +kernel
theorem dX7_judge_80 : decode cX7_judge 80 = .ok (.iload 4, 2) := by decide +kernel
theorem dX7_judge_82 : decode cX7_judge 82 = .ok (.ireturn, 1) := by decide +kernel
theorem dX7_judge_83 : decode cX7_judge 83 = .ok (.iinc 4 1, 3) := by decide +kernel
theorem dX7_judge_86 : decode cX7_judge 86 = .ok (.goto (-35), 3) := by decide +kernel
theorem dX7_judge_89 : decode cX7_judge 89 = .ok (.aload_n 2, 1) := by decide +kernel
theorem dX7_judge_90 : decode cX7_judge 90 = .ok (.getfield 228, 3) := by decide +kernel
theorem dX7_judge_93 : decode cX7_judge 93 = .ok (.aload_n 0, 1) := by decide +kernel
theorem dX7_judge_94 : decode cX7_judge 94 = .ok (.getfield 10, 3) := by decide +kernel
theorem dX7_judge_97 : decode cX7_judge 97 = .ok (.getfield 55, 3) := by decide +kernel
theorem dX7_judge_100 : decode cX7_judge 100 = .ok (.if_icmp .ne 7, 3) := by decide +kernel
theorem dX7_judge_103 : decode cX7_judge 103 = .ok (.iconst (-1), 1) := by decide +kernel
theorem dX7_judge_104 : decode cX7_judge 104 = .ok (.goto 4, 3) := by decide +kernel
theorem dX7_judge_107 : decode cX7_judge 107 = .ok (.iload_n 3, 1) := by decide +kernel
theorem dX7_judge_108 : decode cX7_judge 108 = .ok (.ireturn, 1) := by decide +kernel
theorem dX7_image_0 : decode cX7_image 0 = .ok (.aload_n 0, 1) := by decide +kernel
theorem dX7_image_1 : decode cX7_image 1 = .ok (.getfield 16, 3) := by decide +kernel
theorem dX7_image_4 : decode cX7_image 4 = .ok (.aload_n 0, 1) := by decide +kernel
theorem dX7_image_5 : decode cX7_image 5 = .ok (.getfield 10, 3) := by decide +kernel
theorem dX7_image_8 : decode cX7_image 8 = .ok (.invokevirtual 249, 3) := by decide +kernel
theorem dX7_image_11 : decode cX7_image 11 = .ok (.aload_n 0, 1) := by decide +kernel
theorem dX7_image_12 : decode cX7_image 12 = .ok (.dup, 1) := by decide +kernel
theorem dX7_image_13 : decode cX7_image 13 = .ok (.getfield 253, 3) := by decide +kernel
theorem dX7_image_16 : decode cX7_image 16 = .ok (.iconst 1, 1) := by decide +kernel
theorem dX7_image_17 : decode cX7_image 17 = .ok (.iadd, 1) := by decide +kernel
theorem dX7_image_18 : decode cX7_image 18 = .ok (.putfield 253, 3) := by decide +kernel
theorem dX7_image_21 : decode cX7_image 21 = .ok (.aload_n 0, 1) := by decide +kernel
theorem dX7_image_22 : decode cX7_image 22 = .ok (.getfield 253, 3) := by decide +kernel
theorem dX7_image_25 : decode cX7_image 25 = .ok (.ireturn, 1) := by decide +kernel
theorem dX7_restore_0 : decode cX7_restore 0 = .ok (.aload_n 0, 1) := by decide +kernel
theorem dX7_restore_1 : decode cX7_restore 1 = .ok (.getfield 253, 3) := by decide +kernel
theorem dX7_restore_4 : decode cX7_restore 4 = .ok (.ifCond .ne 9, 3) := by decide +kernel
theorem dX7_restore_7 : decode cX7_restore 7 = .ok (.aload_n 0, 1) := by decide +kernel
theorem dX7_restore_8 : decode cX7_restore 8 = .ok (.iconst 2, 1) := by decide +kernel
theorem dX7_restore_9 : decode cX7_restore 9 = .ok (.invokevirtual 51, 3) := by decide +kernel
theorem dX7_restore_12 : decode cX7_restore 12 = .ok (.ireturn, 1) := by decide +kernel
theorem dX7_restore_13 : decode cX7_restore 13 = .ok (.aload_n 0, 1) := by decide +kernel
theorem dX7_restore_14 : decode cX7_restore 14 = .ok (.getfield 10, 3) := by decide +kernel
theorem dX7_restore_17 : decode cX7_restore 17 = .ok (.aload_n 0, 1) := by decide +kernel
theorem dX7_restore_18 : decode cX7_restore 18 = .ok (.getfield 16, 3) := by decide +kernel
theorem dX7_restore_21 : decode cX7_restore 21 = .ok (.invokevirtual 249, 3) := by decide +kernel
theorem dX7_restore_24 : decode cX7_restore 24 = .ok (.aload_n 0, 1) := by decide +kernel
theorem dX7_restore_25 : decode cX7_restore 25 = .ok (.getfield 10, 3) := by decide +kernel
theorem dX7_restore_28 : decode cX7_restore 28 = .ok (.getfield 157, 3) := by decide +kernel
theorem dX7_restore_31 : decode cX7_restore 31 = .ok (.ireturn, 1) := by decide +kernel
theorem dX7_tell_0 : decode cX7_tell 0 = .ok (.aload_n 0, 1) := by decide +kernel
theorem dX7_tell_1 : decode cX7_tell 1 = .ok (.getfield 10, 3) := by decide +kernel
theorem dX7_tell_4 : decode cX7_tell 4 = .ok (.getfield 256, 3) := by decide +kernel
theorem dX7_tell_7 : decode cX7_tell 7 = .ok (.bipush 24, 2) := by decide +kernel
theorem dX7_tell_9 : decode cX7_tell 9 = .ok (.if_icmp .lt 9, 3) := by decide +kernel
theorem dX7_tell_12 : decode cX7_tell 12 = .ok (.aload_n 0, 1) := by decide +kernel
theorem dX7_tell_13 : decode cX7_tell 13 = .ok (.iconst 4, 1) := by decide +kernel
theorem dX7_tell_14 : decode cX7_tell 14 = .ok (.invokevirtual 51, 3) := by decide +kernel
theorem dX7_tell_17 : decode cX7_tell 17 = .ok (.ireturn, 1) := by decide +kernel
theorem dX7_tell_18 : decode cX7_tell 18 = .ok (.aload_n 0, 1) := by decide +kernel
theorem dX7_tell_19 : decode cX7_tell 19 = .ok (.getfield 10, 3) := by decide +kernel
theorem dX7_tell_22 : decode cX7_tell 22 = .ok (.getfield 259, 3) := by decide +kernel
theorem dX7_tell_25 : decode cX7_tell 25 = .ok (.aload_n 0, 1) := by decide +kernel
theorem dX7_tell_26 : decode cX7_tell 26 = .ok (.getfield 10, 3) := by decide +kernel
theorem dX7_tell_29 : decode cX7_tell 29 = .ok (.getfield 256, 3) := by decide +kernel
theorem dX7_tell_32 : decode cX7_tell 32 = .ok (.iload_n 1, 1) := by decide +kernel
theorem dX7_tell_33 : decode cX7_tell 33 = .ok (.iastore, 1) := by decide +kernel
theorem dX7_tell_34 : decode cX7_tell 34 = .ok (.aload_n 0, 1) := by decide +kernel
theorem dX7_tell_35 : decode cX7_tell 35 = .ok (.getfield 10, 3) := by decide +kernel
theorem dX7_tell_38 : decode cX7_tell 38 = .ok (.dup, 1) := by decide +kernel
theorem dX7_tell_39 : decode cX7_tell 39 = .ok (.getfield 256, 3) := by decide +kernel
theorem dX7_tell_42 : decode cX7_tell 42 = .ok (.iconst 1, 1) := by decide +kernel
theorem dX7_tell_43 : decode cX7_tell 43 = .ok (.iadd, 1) := by decide +kernel
theorem dX7_tell_44 : decode cX7_tell 44 = .ok (.putfield 256, 3) := by decide +kernel
theorem dX7_tell_47 : decode cX7_tell 47 = .ok (.aload_n 0, 1) := by decide +kernel
theorem dX7_tell_48 : decode cX7_tell 48 = .ok (.getfield 10, 3) := by decide +kernel
theorem dX7_tell_51 : decode cX7_tell 51 = .ok (.getfield 256, 3) := by decide +kernel
theorem dX7_tell_54 : decode cX7_tell 54 = .ok (.ireturn, 1) := by decide +kernel
theorem dX7_check_0 : decode cX7_check 0 = .ok (.aload_n 0, 1) := by decide +kernel
theorem dX7_check_1 : decode cX7_check 1 = .ok (.getfield 10, 3) := by decide +kernel
theorem dX7_check_4 : decode cX7_check 4 = .ok (.getfield 256, 3) := by decide +kernel
theorem dX7_check_7 : decode cX7_check 7 = .ok (.istore_n 2, 1) := by decide +kernel
theorem dX7_check_8 : decode cX7_check 8 = .ok (.aload_n 0, 1) := by decide +kernel
theorem dX7_check_9 : decode cX7_check 9 = .ok (.getfield 10, 3) := by decide +kernel
theorem dX7_check_12 : decode cX7_check 12 = .ok (.iconst 0, 1) := by decide +kernel
theorem dX7_check_13 : decode cX7_check 13 = .ok (.putfield 256, 3) := by decide +kernel
theorem dX7_check_16 : decode cX7_check 16 = .ok (.iload_n 1, 1) := by decide +kernel
theorem dX7_check_17 : decode cX7_check 17 = .ok (.invokestatic 95, 3) := by decide +kernel
theorem dX7_check_20 : decode cX7_check 20 = .ok (.ifCond .ne 9, 3) := by decide +kernel
theorem dX7_check_23 : decode cX7_check 23 = .ok (.aload_n 0, 1) := by decide +kernel
theorem dX7_check_24 : decode cX7_check 24 = .ok (.iconst 1, 1) := by decide +kernel
theorem dX7_check_25 : decode cX7_check 25 = .ok (.invokevirtual 51, 3) := by decide +kernel
theorem dX7_check_28 : decode cX7_check 28 = .ok (.ireturn, 1) := by decide +kernel
theorem dX7_check_29 : decode cX7_check 29 = .ok (.aload_n 0, 1) := by decide +kernel
theorem dX7_check_30 : decode cX7_check 30 = .ok (.iconst 0, 1) := by decide +kernel
theorem dX7_check_31 : decode cX7_check 31 = .ok (.invokevirtual 173, 3) := by decide +kernel
theorem dX7_check_34 : decode cX7_check 34 = .ok (.iconst 0, 1) := by decide +kernel
theorem dX7_check_35 : decode cX7_check 35 = .ok (.istore_n 3, 1) := by decide +kernel
theorem dX7_check_36 : decode cX7_check 36 = .ok (.iload_n 3, 1) := by decide +kernel
theorem dX7_check_37 : decode cX7_check 37 = .ok (.iload_n 2, 1) := by decide +kernel
theorem dX7_check_38 : decode cX7_check 38 = .ok (.if_icmp .ge 41, 3) := by decide +kernel
theorem dX7_check_41 : decode cX7_check 41 = .ok (.aload_n 0, 1) := by decide +kernel
theorem dX7_check_42 : decode cX7_check 42 = .ok (.getfield 19, 3) := by decide +kernel
theorem dX7_check_45 : decode cX7_check 45 = .ok (.invokevirtual 160, 3) := by decide +kernel
theorem dX7_check_48 : decode cX7_check 48 = .ok (.pop, 1) := by decide +kernel
theorem dX7_check_49 : decode cX7_check 49 = .ok (.aload_n 0, 1) := by decide +kernel
theorem dX7_check_50 : decode cX7_check 50 = .ok (.getfield 19, 3) := by decide +kernel
theorem dX7_check_53 : decode cX7_check 53 = .ok (.iload_n 1, 1) := by decide +kernel
theorem dX7_check_54 : decode cX7_check 54 = .ok (.invokevirtual 176, 3) := by decide +kernel
theorem dX7_check_57 : decode cX7_check 57 = .ok (.aload_n 0, 1) := by decide +kernel
theorem dX7_check_58 : decode cX7_check 58 = .ok (.getfield 10, 3) := by decide +kernel
theorem dX7_check_61 : decode cX7_check 61 = .ok (.getfield 259, 3) := by decide +kernel
theorem dX7_check_64 : decode cX7_check 64 = .ok (.iload_n 3, 1) := by decide +kernel
theorem dX7_check_65 : decode cX7_check 65 = .ok (.iaload, 1) := by decide +kernel
theorem dX7_check_66 : decode cX7_check 66 = .ok (.if_icmp .eq 7, 3) := by decide +kernel
theorem dX7_check_69 : decode cX7_check 69 = .ok (.iconst 1, 1) := by decide +kernel
theorem dX7_check_70 : decode cX7_check 70 = .ok (.iload_n 3, 1) := by decide +kernel
theorem dX7_check_71 : decode cX7_check 71 = .ok (.iadd, 1) := by decide +kernel
theorem dX7_check_72 : decode cX7_check 72 = .ok (.ireturn, 1) := by decide +kernel
theorem dX7_check_73 : decode cX7_check 73 = .ok (.iinc 3 1, 3) := by decide +kernel
theorem dX7_check_76 : decode cX7_check 76 = .ok (.goto (-40), 3) := by decide +kernel
theorem dX7_check_79 : decode cX7_check 79 = .ok (.iconst 0, 1) := by decide +kernel
theorem dX7_check_80 : decode cX7_check 80 = .ok (.ireturn, 1) := by decide +kernel
theorem dX7_count_0 : decode cX7_count 0 = .ok (.iload_n 1, 1) := by decide +kernel
theorem dX7_count_1 : decode cX7_count 1 = .ok (.tableswitch 147 0 10 #[59, 67, 75, 83, 91, 99, 107, 115, 123, 131, 139], 59) := by decide +kernel
theorem dX7_count_60 : decode cX7_count 60 = .ok (.aload_n 0, 1) := by decide +kernel
theorem dX7_count_61 : decode cX7_count 61 = .ok (.getfield 10, 3) := by decide +kernel
theorem dX7_count_64 : decode cX7_count 64 = .ok (.getfield 55, 3) := by decide +kernel
theorem dX7_count_67 : decode cX7_count 67 = .ok (.ireturn, 1) := by decide +kernel
theorem dX7_count_68 : decode cX7_count 68 = .ok (.aload_n 0, 1) := by decide +kernel
theorem dX7_count_69 : decode cX7_count 69 = .ok (.getfield 10, 3) := by decide +kernel
theorem dX7_count_72 : decode cX7_count 72 = .ok (.getfield 115, 3) := by decide +kernel
theorem dX7_count_75 : decode cX7_count 75 = .ok (.ireturn, 1) := by decide +kernel
theorem dX7_count_76 : decode cX7_count 76 = .ok (.aload_n 0, 1) := by decide +kernel
theorem dX7_count_77 : decode cX7_count 77 = .ok (.getfield 10, 3) := by decide +kernel
theorem dX7_count_80 : decode cX7_count 80 = .ok (.getfield 262, 3) := by decide +kernel
theorem dX7_count_83 : decode cX7_count 83 = .ok (.ireturn, 1) := by decide +kernel
theorem dX7_count_84 : decode cX7_count 84 = .ok (.aload_n 0, 1) := by decide +kernel
theorem dX7_count_85 : decode cX7_count 85 = .ok (.getfield 10, 3) := by decide +kernel
theorem dX7_count_88 : decode cX7_count 88 = .ok (.getfield 157, 3) := by decide +kernel
theorem dX7_count_91 : decode cX7_count 91 = .ok (.ireturn, 1) := by decide +kernel
theorem dX7_count_92 : decode cX7_count 92 = .ok (.aload_n 0, 1) := by decide +kernel
theorem dX7_count_93 : decode cX7_count 93 = .ok (.getfield 10, 3) := by decide +kernel
theorem dX7_count_96 : decode cX7_count 96 = .ok (.invokevirtual 265, 3) := by decide +kernel
theorem dX7_count_99 : decode cX7_count 99 = .ok (.ireturn, 1) := by decide +kernel
theorem dX7_count_100 : decode cX7_count 100 = .ok (.aload_n 0, 1) := by decide +kernel
theorem dX7_count_101 : decode cX7_count 101 = .ok (.getfield 10, 3) := by decide +kernel
theorem dX7_count_104 : decode cX7_count 104 = .ok (.getfield 121, 3) := by decide +kernel
theorem dX7_count_107 : decode cX7_count 107 = .ok (.ireturn, 1) := by decide +kernel
theorem dX7_count_108 : decode cX7_count 108 = .ok (.aload_n 0, 1) := by decide +kernel
theorem dX7_count_109 : decode cX7_count 109 = .ok (.getfield 10, 3) := by decide +kernel
theorem dX7_count_112 : decode cX7_count 112 = .ok (.getfield 167, 3) := by decide +kernel
theorem dX7_count_115 : decode cX7_count 115 = .ok (.ireturn, 1) := by decide +kernel
theorem dX7_count_116 : decode cX7_count 116 = .ok (.aload_n 0, 1) := by decide +kernel
theorem dX7_count_117 : decode cX7_count 117 = .ok (.getfield 10, 3) := by decide +kernel
theorem dX7_count_120 : decode cX7_count 120 = .ok (.getfield 139, 3) := by decide +kernel
theorem dX7_count_123 : decode cX7_count 123 = .ok (.ireturn, 1) := by decide +kernel
theorem dX7_count_124 : decode cX7_count 124 = .ok (.aload_n 0, 1) := by decide +kernel
theorem dX7_count_125 : decode cX7_count 125 = .ok (.getfield 10, 3) := by decide +kernel
theorem dX7_count_128 : decode cX7_count 128 = .ok (.getfield 256, 3) := by decide +kernel
theorem dX7_count_131 : decode cX7_count 131 = .ok (.ireturn, 1) := by decide +kernel
theorem dX7_count_132 : decode cX7_count 132 = .ok (.aload_n 0, 1) := by decide +kernel
theorem dX7_count_133 : decode cX7_count 133 = .ok (.getfield 32, 3) := by decide +kernel
theorem dX7_count_136 : decode cX7_count 136 = .ok (.getfield 212, 3) := by decide +kernel
theorem dX7_count_139 : decode cX7_count 139 = .ok (.ireturn, 1) := by decide +kernel
theorem dX7_count_140 : decode cX7_count 140 = .ok (.aload_n 0, 1) := by decide +kernel
theorem dX7_count_141 : decode cX7_count 141 = .ok (.getfield 10, 3) := by decide +kernel
theorem dX7_count_144 : decode cX7_count 144 = .ok (.getfield 170, 3) := by decide +kernel
theorem dX7_count_147 : decode cX7_count 147 = .ok (.ireturn, 1) := by decide +kernel
theorem dX7_count_148 : decode cX7_count 148 = .ok (.aload_n 0, 1) := by decide +kernel
theorem dX7_count_149 : decode cX7_count 149 = .ok (.iconst 1, 1) := by decide +kernel
theorem dX7_count_150 : decode cX7_count 150 = .ok (.invokevirtual 51, 3) := by decide +kernel
theorem dX7_count_153 : decode cX7_count 153 = .ok (.ireturn, 1) := by decide +kernel
theorem dX7_told_0 : decode cX7_told 0 = .ok (.iload_n 1, 1) := by decide +kernel
theorem dX7_told_1 : decode cX7_told 1 = .ok (.iconst 1, 1) := by decide +kernel
theorem dX7_told_2 : decode cX7_told 2 = .ok (.bipush 6, 2) := by decide +kernel
theorem dX7_told_4 : decode cX7_told 4 = .ok (.invokestatic 47, 3) := by decide +kernel
theorem dX7_told_7 : decode cX7_told 7 = .ok (.ifCond .eq 12, 3) := by decide +kernel
theorem dX7_told_10 : decode cX7_told 10 = .ok (.aload_n 0, 1) := by decide +kernel
theorem dX7_told_11 : decode cX7_told 11 = .ok (.getfield 42, 3) := by decide +kernel
theorem dX7_told_14 : decode cX7_told 14 = .ok (.iload_n 1, 1) := by decide +kernel
theorem dX7_told_15 : decode cX7_told 15 = .ok (.iaload, 1) := by decide +kernel
theorem dX7_told_16 : decode cX7_told 16 = .ok (.goto 8, 3) := by decide +kernel
theorem dX7_told_19 : decode cX7_told 19 = .ok (.aload_n 0, 1) := by decide +kernel
theorem dX7_told_20 : decode cX7_told 20 = .ok (.iconst 1, 1) := by decide +kernel
theorem dX7_told_21 : decode cX7_told 21 = .ok (.invokevirtual 51, 3) := by decide +kernel
theorem dX7_told_24 : decode cX7_told 24 = .ok (.ireturn, 1) := by decide +kernel
theorem dX7_within_0 : decode cX7_within 0 = .ok (.iload_n 0, 1) := by decide +kernel
theorem dX7_within_1 : decode cX7_within 1 = .ok (.iload_n 1, 1) := by decide +kernel
theorem dX7_within_2 : decode cX7_within 2 = .ok (.if_icmp .lt 12, 3) := by decide +kernel
theorem dX7_within_5 : decode cX7_within 5 = .ok (.iload_n 0, 1) := by decide +kernel
theorem dX7_within_6 : decode cX7_within 6 = .ok (.iload_n 2, 1) := by decide +kernel
theorem dX7_within_7 : decode cX7_within 7 = .ok (.if_icmp .gt 7, 3) := by decide +kernel
theorem dX7_within_10 : decode cX7_within 10 = .ok (.iconst 1, 1) := by decide +kernel
theorem dX7_within_11 : decode cX7_within 11 = .ok (.goto 4, 3) := by decide +kernel
theorem dX7_within_14 : decode cX7_within 14 = .ok (.iconst 0, 1) := by decide +kernel
theorem dX7_within_15 : decode cX7_within 15 = .ok (.ireturn, 1) := by decide +kernel
theorem dX7_isKnack_0 : decode cX7_isKnack 0 = .ok (.iload_n 0, 1) := by decide +kernel
theorem dX7_isKnack_1 : decode cX7_isKnack 1 = .ok (.iconst 0, 1) := by decide +kernel
theorem dX7_isKnack_2 : decode cX7_isKnack 2 = .ok (.iconst 5, 1) := by decide +kernel
theorem dX7_isKnack_3 : decode cX7_isKnack 3 = .ok (.invokestatic 47, 3) := by decide +kernel
theorem dX7_isKnack_6 : decode cX7_isKnack 6 = .ok (.ireturn, 1) := by decide +kernel
theorem dX7_isSheet_0 : decode cX7_isSheet 0 = .ok (.iload_n 0, 1) := by decide +kernel
theorem dX7_isSheet_1 : decode cX7_isSheet 1 = .ok (.iconst 0, 1) := by decide +kernel
theorem dX7_isSheet_2 : decode cX7_isSheet 2 = .ok (.iconst 3, 1) := by decide +kernel
theorem dX7_isSheet_3 : decode cX7_isSheet 3 = .ok (.invokestatic 47, 3) := by decide +kernel
theorem dX7_isSheet_6 : decode cX7_isSheet 6 = .ok (.ireturn, 1) := by decide +kernel
theorem dX7_mayEnlist_0 : decode cX7_mayEnlist 0 = .ok (.iload_n 0, 1) := by decide +kernel
theorem dX7_mayEnlist_1 : decode cX7_mayEnlist 1 = .ok (.iconst 0, 1) := by decide +kernel
theorem dX7_mayEnlist_2 : decode cX7_mayEnlist 2 = .ok (.bipush 69, 2) := by decide +kernel
theorem dX7_mayEnlist_4 : decode cX7_mayEnlist 4 = .ok (.invokestatic 47, 3) := by decide +kernel
theorem dX7_mayEnlist_7 : decode cX7_mayEnlist 7 = .ok (.ifCond .eq 17, 3) := by decide +kernel
theorem dX7_mayEnlist_10 : decode cX7_mayEnlist 10 = .ok (.iload_n 1, 1) := by decide +kernel
theorem dX7_mayEnlist_11 : decode cX7_mayEnlist 11 = .ok (.iconst 0, 1) := by decide +kernel
theorem dX7_mayEnlist_12 : decode cX7_mayEnlist 12 = .ok (.bipush 63, 2) := by decide +kernel
theorem dX7_mayEnlist_14 : decode cX7_mayEnlist 14 = .ok (.invokestatic 47, 3) := by decide +kernel
theorem dX7_mayEnlist_17 : decode cX7_mayEnlist 17 = .ok (.ifCond .eq 7, 3) := by decide +kernel
theorem dX7_mayEnlist_20 : decode cX7_mayEnlist 20 = .ok (.iconst 1, 1) := by decide +kernel
theorem dX7_mayEnlist_21 : decode cX7_mayEnlist 21 = .ok (.goto 4, 3) := by decide +kernel
theorem dX7_mayEnlist_24 : decode cX7_mayEnlist 24 = .ok (.iconst 0, 1) := by decide +kernel
theorem dX7_mayEnlist_25 : decode cX7_mayEnlist 25 = .ok (.ireturn, 1) := by decide +kernel
theorem dX7_maySet_0 : decode cX7_maySet 0 = .ok (.iload_n 0, 1) := by decide +kernel
theorem dX7_maySet_1 : decode cX7_maySet 1 = .ok (.tableswitch 58 0 4 #[35, 43, 58, 58, 51], 35) := by decide +kernel
theorem dX7_maySet_36 : decode cX7_maySet 36 = .ok (.iload_n 1, 1) := by decide +kernel
theorem dX7_maySet_37 : decode cX7_maySet 37 = .ok (.iconst 0, 1) := by decide +kernel
theorem dX7_maySet_38 : decode cX7_maySet 38 = .ok (.bipush 6, 2) := by decide +kernel
theorem dX7_maySet_40 : decode cX7_maySet 40 = .ok (.invokestatic 47, 3) := by decide +kernel
theorem dX7_maySet_43 : decode cX7_maySet 43 = .ok (.ireturn, 1) := by decide +kernel
theorem dX7_maySet_44 : decode cX7_maySet 44 = .ok (.iload_n 1, 1) := by decide +kernel
theorem dX7_maySet_45 : decode cX7_maySet 45 = .ok (.iconst 0, 1) := by decide +kernel
theorem dX7_maySet_46 : decode cX7_maySet 46 = .ok (.bipush 9, 2) := by decide +kernel
theorem dX7_maySet_48 : decode cX7_maySet 48 = .ok (.invokestatic 47, 3) := by decide +kernel
theorem dX7_maySet_51 : decode cX7_maySet 51 = .ok (.ireturn, 1) := by decide +kernel
theorem dX7_maySet_52 : decode cX7_maySet 52 = .ok (.iload_n 1, 1) := by decide +kernel
theorem dX7_maySet_53 : decode cX7_maySet 53 = .ok (.iconst (-1), 1) := by decide +kernel
theorem dX7_maySet_54 : decode cX7_maySet 54 = .ok (.iconst 5, 1) := by decide +kernel
theorem dX7_maySet_55 : decode cX7_maySet 55 = .ok (.invokestatic 47, 3) := by decide +kernel
theorem dX7_maySet_58 : decode cX7_maySet 58 = .ok (.ireturn, 1) := by decide +kernel
theorem dX7_maySet_59 : decode cX7_maySet 59 = .ok (.iconst 0, 1) := by decide +kernel
theorem dX7_maySet_60 : decode cX7_maySet 60 = .ok (.ireturn, 1) := by decide +kernel
theorem dX7_isBunk_0 : decode cX7_isBunk 0 = .ok (.iload_n 1, 1) := by decide +kernel
theorem dX7_isBunk_1 : decode cX7_isBunk 1 = .ok (.iconst 0, 1) := by decide +kernel
theorem dX7_isBunk_2 : decode cX7_isBunk 2 = .ok (.aload_n 0, 1) := by decide +kernel
theorem dX7_isBunk_3 : decode cX7_isBunk 3 = .ok (.getfield 10, 3) := by decide +kernel
theorem dX7_isBunk_6 : decode cX7_isBunk 6 = .ok (.getfield 55, 3) := by decide +kernel
theorem dX7_isBunk_9 : decode cX7_isBunk 9 = .ok (.iconst 1, 1) := by decide +kernel
theorem dX7_isBunk_10 : decode cX7_isBunk 10 = .ok (.isub, 1) := by decide +kernel
theorem dX7_isBunk_11 : decode cX7_isBunk 11 = .ok (.invokestatic 47, 3) := by decide +kernel
theorem dX7_isBunk_14 : decode cX7_isBunk 14 = .ok (.ireturn, 1) := by decide +kernel
theorem dX7_error_0 : decode cX7_error 0 = .ok (.aload_n 0, 1) := by decide +kernel
theorem dX7_error_1 : decode cX7_error 1 = .ok (.getfield 42, 3) := by decide +kernel
theorem dX7_error_4 : decode cX7_error 4 = .ok (.iload_n 1, 1) := by decide +kernel
theorem dX7_error_5 : decode cX7_error 5 = .ok (.dup2, 1) := by decide +kernel
theorem dX7_error_6 : decode cX7_error 6 = .ok (.iaload, 1) := by decide +kernel
theorem dX7_error_7 : decode cX7_error 7 = .ok (.iconst 1, 1) := by decide +kernel
theorem dX7_error_8 : decode cX7_error 8 = .ok (.iadd, 1) := by decide +kernel
theorem dX7_error_9 : decode cX7_error 9 = .ok (.iastore, 1) := by decide +kernel
theorem dX7_error_10 : decode cX7_error 10 = .ok (.ldc_w 268, 3) := by decide +kernel
theorem dX7_error_13 : decode cX7_error 13 = .ok (.iload_n 1, 1) := by decide +kernel
theorem dX7_error_14 : decode cX7_error 14 = .ok (.isub, 1) := by decide +kernel
theorem dX7_error_15 : decode cX7_error 15 = .ok (.ireturn, 1) := by decide +kernel
theorem dX7_goAhead_0 : decode cX7_goAhead 0 = .ok (.aload_n 0, 1) := by decide +kernel
theorem dX7_goAhead_1 : decode cX7_goAhead 1 = .ok (.getfield 19, 3) := by decide +kernel
theorem dX7_goAhead_4 : decode cX7_goAhead 4 = .ok (.aload_n 0, 1) := by decide +kernel
theorem dX7_goAhead_5 : decode cX7_goAhead 5 = .ok (.getfield 10, 3) := by decide +kernel
theorem dX7_goAhead_8 : decode cX7_goAhead 8 = .ok (.invokevirtual 249, 3) := by decide +kernel
theorem dX7_goAhead_11 : decode cX7_goAhead 11 = .ok (.iconst 0, 1) := by decide +kernel
theorem dX7_goAhead_12 : decode cX7_goAhead 12 = .ok (.istore_n 2, 1) := by decide +kernel
theorem dX7_goAhead_13 : decode cX7_goAhead 13 = .ok (.iload_n 2, 1) := by decide +kernel
theorem dX7_goAhead_14 : decode cX7_goAhead 14 = .ok (.iload_n 1, 1) := by decide +kernel
theorem dX7_goAhead_15 : decode cX7_goAhead 15 = .ok (.if_icmp .ge 17, 3) := by decide +kernel
theorem dX7_goAhead_18 : decode cX7_goAhead 18 = .ok (.aload_n 0, 1) := by decide +kernel
theorem dX7_goAhead_19 : decode cX7_goAhead 19 = .ok (.getfield 19, 3) := by decide +kernel
theorem dX7_goAhead_22 : decode cX7_goAhead 22 = .ok (.invokevirtual 160, 3) := by decide +kernel
theorem dX7_goAhead_25 : decode cX7_goAhead 25 = .ok (.pop, 1) := by decide +kernel
theorem dX7_goAhead_26 : decode cX7_goAhead 26 = .ok (.iinc 2 1, 3) := by decide +kernel
theorem dX7_goAhead_29 : decode cX7_goAhead 29 = .ok (.goto (-16), 3) := by decide +kernel
theorem dX7_goAhead_32 : decode cX7_goAhead 32 = .ok (.return_, 1) := by decide +kernel
theorem dX7_staysKnown_0 : decode cX7_staysKnown 0 = .ok (.aload_n 0, 1) := by decide +kernel
theorem dX7_staysKnown_1 : decode cX7_staysKnown 1 = .ok (.getfield 19, 3) := by decide +kernel
theorem dX7_staysKnown_4 : decode cX7_staysKnown 4 = .ok (.aload_n 0, 1) := by decide +kernel
theorem dX7_staysKnown_5 : decode cX7_staysKnown 5 = .ok (.getfield 10, 3) := by decide +kernel
theorem dX7_staysKnown_8 : decode cX7_staysKnown 8 = .ok (.invokevirtual 249, 3) := by decide +kernel
theorem dX7_staysKnown_11 : decode cX7_staysKnown 11 = .ok (.aload_n 0, 1) := by decide +kernel
theorem dX7_staysKnown_12 : decode cX7_staysKnown 12 = .ok (.getfield 19, 3) := by decide +kernel
theorem dX7_staysKnown_15 : decode cX7_staysKnown 15 = .ok (.iload_n 1, 1) := by decide +kernel
theorem dX7_staysKnown_16 : decode cX7_staysKnown 16 = .ok (.iload_n 3, 1) := by decide +kernel
theorem dX7_staysKnown_17 : decode cX7_staysKnown 17 = .ok (.invokevirtual 269, 3) := by decide +kernel
theorem dX7_staysKnown_20 : decode cX7_staysKnown 20 = .ok (.iconst 0, 1) := by decide +kernel
theorem dX7_staysKnown_21 : decode cX7_staysKnown 21 = .ok (.istore 4, 2) := by decide +kernel
theorem dX7_staysKnown_23 : decode cX7_staysKnown 23 = .ok (.iload 4, 2) := by decide +kernel
theorem dX7_staysKnown_25 : decode cX7_staysKnown 25 = .ok (.iload_n 2, 1) := by decide +kernel
theorem dX7_staysKnown_26 : decode cX7_staysKnown 26 = .ok (.if_icmp .ge 30, 3) := by decide +kernel
theorem dX7_staysKnown_29 : decode cX7_staysKnown 29 = .ok (.aload_n 0, 1) := by decide +kernel
theorem dX7_staysKnown_30 : decode cX7_staysKnown 30 = .ok (.getfield 19, 3) := by decide +kernel
theorem dX7_staysKnown_33 : decode cX7_staysKnown 33 = .ok (.invokevirtual 160, 3) := by decide +kernel
theorem dX7_staysKnown_36 : decode cX7_staysKnown 36 = .ok (.pop, 1) := by decide +kernel
theorem dX7_staysKnown_37 : decode cX7_staysKnown 37 = .ok (.aload_n 0, 1) := by decide +kernel
theorem dX7_staysKnown_38 : decode cX7_staysKnown 38 = .ok (.getfield 19, 3) := by decide +kernel
theorem dX7_staysKnown_41 : decode cX7_staysKnown 41 = .ok (.iload_n 1, 1) := by decide +kernel
theorem dX7_staysKnown_42 : decode cX7_staysKnown 42 = .ok (.invokevirtual 176, 3) := by decide +kernel
theorem dX7_staysKnown_45 : decode cX7_staysKnown 45 = .ok (.ifCond .ne 5, 3) := by decide +kernel
theorem dX7_staysKnown_48 : decode cX7_staysKnown 48 = .ok (.iconst 0, 1) := by decide +kernel
theorem dX7_staysKnown_49 : decode cX7_staysKnown 49 = .ok (.ireturn, 1) := by decide +kernel
theorem dX7_staysKnown_50 : decode cX7_staysKnown 50 = .ok (.iinc 4 1, 3) := by decide +kernel
theorem dX7_staysKnown_53 : decode cX7_staysKnown 53 = .ok (.goto (-30), 3) := by decide +kernel
theorem dX7_staysKnown_56 : decode cX7_staysKnown 56 = .ok (.iconst 1, 1) := by decide +kernel
theorem dX7_staysKnown_57 : decode cX7_staysKnown 57 = .ok (.ireturn, 1) := by decide +kernel
theorem dX7_doneWithBook_0 : decode cX7_doneWithBook 0 = .ok (.aload_n 0, 1) := by decide +kernel
theorem dX7_doneWithBook_1 : decode cX7_doneWithBook 1 = .ok (.getfield 19, 3) := by decide +kernel
theorem dX7_doneWithBook_4 : decode cX7_doneWithBook 4 = .ok (.aload_n 0, 1) := by decide +kernel
theorem dX7_doneWithBook_5 : decode cX7_doneWithBook 5 = .ok (.getfield 10, 3) := by decide +kernel
theorem dX7_doneWithBook_8 : decode cX7_doneWithBook 8 = .ok (.invokevirtual 249, 3) := by decide +kernel
theorem dX7_doneWithBook_11 : decode cX7_doneWithBook 11 = .ok (.aload_n 0, 1) := by decide +kernel
theorem dX7_doneWithBook_12 : decode cX7_doneWithBook 12 = .ok (.getfield 19, 3) := by decide +kernel
theorem dX7_doneWithBook_15 : decode cX7_doneWithBook 15 = .ok (.iload_n 1, 1) := by decide +kernel
theorem dX7_doneWithBook_16 : decode cX7_doneWithBook 16 = .ok (.putfield 121, 3) := by decide +kernel
theorem dX7_doneWithBook_19 : decode cX7_doneWithBook 19 = .ok (.iconst 0, 1) := by decide +kernel
theorem dX7_doneWithBook_20 : decode cX7_doneWithBook 20 = .ok (.istore_n 3, 1) := by decide +kernel
theorem dX7_doneWithBook_21 : decode cX7_doneWithBook 21 = .ok (.iload_n 3, 1) := by decide +kernel
theorem dX7_doneWithBook_22 : decode cX7_doneWithBook 22 = .ok (.iload_n 2, 1) := by decide +kernel
theorem dX7_doneWithBook_23 : decode cX7_doneWithBook 23 = .ok (.if_icmp .ge 17, 3) := by decide +kernel
theorem dX7_doneWithBook_26 : decode cX7_doneWithBook 26 = .ok (.aload_n 0, 1) := by decide +kernel
theorem dX7_doneWithBook_27 : decode cX7_doneWithBook 27 = .ok (.getfield 19, 3) := by decide +kernel
theorem dX7_doneWithBook_30 : decode cX7_doneWithBook 30 = .ok (.invokevirtual 160, 3) := by decide +kernel
theorem dX7_doneWithBook_33 : decode cX7_doneWithBook 33 = .ok (.pop, 1) := by decide +kernel
theorem dX7_doneWithBook_34 : decode cX7_doneWithBook 34 = .ok (.iinc 3 1, 3) := by decide +kernel
theorem dX7_doneWithBook_37 : decode cX7_doneWithBook 37 = .ok (.goto (-16), 3) := by decide +kernel
theorem dX7_doneWithBook_40 : decode cX7_doneWithBook 40 = .ok (.aload_n 0, 1) := by decide +kernel
theorem dX7_doneWithBook_41 : decode cX7_doneWithBook 41 = .ok (.getfield 19, 3) := by decide +kernel
theorem dX7_doneWithBook_44 : decode cX7_doneWithBook 44 = .ok (.invokevirtual 272, 3) := by decide +kernel
theorem dX7_doneWithBook_47 : decode cX7_doneWithBook 47 = .ok (.ireturn, 1) := by decide +kernel
theorem dL_law_0 : decode cL_law 0 = .ok (.new 7, 3) := by decide +kernel
theorem dL_law_3 : decode cL_law 3 = .ok (.dup, 1) := by decide +kernel
theorem dL_law_4 : decode cL_law 4 = .ok (.invokespecial 9, 3) := by decide +kernel
theorem dL_law_7 : decode cL_law 7 = .ok (.astore_n 1, 1) := by decide +kernel
theorem dL_law_8 : decode cL_law 8 = .ok (.new 10, 3) := by decide +kernel
theorem dL_law_11 : decode cL_law 11 = .ok (.dup, 1) := by decide +kernel
theorem dL_law_12 : decode cL_law 12 = .ok (.invokespecial 12, 3) := by decide +kernel
theorem dL_law_15 : decode cL_law 15 = .ok (.astore_n 2, 1) := by decide +kernel
theorem dL_law_16 : decode cL_law 16 = .ok (.iconst 0, 1) := by decide +kernel
theorem dL_law_17 : decode cL_law 17 = .ok (.istore_n 3, 1) := by decide +kernel
theorem dL_law_18 : decode cL_law 18 = .ok (.iload_n 3, 1) := by decide +kernel
theorem dL_law_19 : decode cL_law 19 = .ok (.aload_n 0, 1) := by decide +kernel
theorem dL_law_20 : decode cL_law 20 = .ok (.arraylength, 1) := by decide +kernel
theorem dL_law_21 : decode cL_law 21 = .ok (.bipush 6, 2) := by decide +kernel
theorem dL_law_23 : decode cL_law 23 = .ok (.isub, 1) := by decide +kernel
theorem dL_law_24 : decode cL_law 24 = .ok (.if_icmp .gt 1413, 3) := by decide +kernel
theorem dL_law_27 : decode cL_law 27 = .ok (.aload_n 0, 1) := by decide +kernel
theorem dL_law_28 : decode cL_law 28 = .ok (.iload_n 3, 1) := by decide +kernel
theorem dL_law_29 : decode cL_law 29 = .ok (.iaload, 1) := by decide +kernel
theorem dL_law_30 : decode cL_law 30 = .ok (.bipush 63, 2) := by decide +kernel
theorem dL_law_32 : decode cL_law 32 = .ok (.iand, 1) := by decide +kernel
theorem dL_law_33 : decode cL_law 33 = .ok (.tableswitch 1398 0 38 #[171, 194, 227, 260, 303, 346, 379, 402, 445, 478, 541, 564, 587, 610, 633, 656, 679, 722, 765, 798, 841, 864, 897, 930, 963, 996, 1019, 1062, 1085, 1128, 1171, 1234, 1257, 1280, 1293, 1306, 1329, 1352, 1375], 171) := by decide +kernel
theorem dL_law_204 : decode cL_law 204 = .ok (.aload_n 1, 1) := by decide +kernel
theorem dL_law_205 : decode cL_law 205 = .ok (.aload_n 0, 1) := by decide +kernel
theorem dL_law_206 : decode cL_law 206 = .ok (.iload_n 3, 1) := by decide +kernel
theorem dL_law_207 : decode cL_law 207 = .ok (.iconst 1, 1) := by decide +kernel
theorem dL_law_208 : decode cL_law 208 = .ok (.iadd, 1) := by decide +kernel
theorem dL_law_209 : decode cL_law 209 = .ok (.iaload, 1) := by decide +kernel
theorem dL_law_210 : decode cL_law 210 = .ok (.invokevirtual 13, 3) := by decide +kernel
theorem dL_law_213 : decode cL_law 213 = .ok (.aload_n 2, 1) := by decide +kernel
theorem dL_law_214 : decode cL_law 214 = .ok (.aload_n 0, 1) := by decide +kernel
theorem dL_law_215 : decode cL_law 215 = .ok (.iload_n 3, 1) := by decide +kernel
theorem dL_law_216 : decode cL_law 216 = .ok (.iconst 1, 1) := by decide +kernel
theorem dL_law_217 : decode cL_law 217 = .ok (.iadd, 1) := by decide +kernel
theorem dL_law_218 : decode cL_law 218 = .ok (.iaload, 1) := by decide +kernel
theorem dL_law_219 : decode cL_law 219 = .ok (.invokevirtual 17, 3) := by decide +kernel
theorem dL_law_222 : decode cL_law 222 = .ok (.if_icmp .eq 1209, 3) := by decide +kernel
theorem dL_law_225 : decode cL_law 225 = .ok (.iconst 0, 1) := by decide +kernel
theorem dL_law_226 : decode cL_law 226 = .ok (.ireturn, 1) := by decide +kernel
theorem dL_law_227 : decode cL_law 227 = .ok (.aload_n 1, 1) := by decide +kernel
theorem dL_law_228 : decode cL_law 228 = .ok (.aload_n 0, 1) := by decide +kernel
theorem dL_law_229 : decode cL_law 229 = .ok (.iload_n 3, 1) := by decide +kernel
theorem dL_law_230 : decode cL_law 230 = .ok (.iconst 1, 1) := by decide +kernel
theorem dL_law_231 : decode cL_law 231 = .ok (.iadd, 1) := by decide +kernel
theorem dL_law_232 : decode cL_law 232 = .ok (.iaload, 1) := by decide +kernel
theorem dL_law_233 : decode cL_law 233 = .ok (.aload_n 0, 1) := by decide +kernel
theorem dL_law_234 : decode cL_law 234 = .ok (.iload_n 3, 1) := by decide +kernel
theorem dL_law_235 : decode cL_law 235 = .ok (.iconst 2, 1) := by decide +kernel
theorem dL_law_236 : decode cL_law 236 = .ok (.iadd, 1) := by decide +kernel
theorem dL_law_237 : decode cL_law 237 = .ok (.iaload, 1) := by decide +kernel
theorem dL_law_238 : decode cL_law 238 = .ok (.invokevirtual 18, 3) := by decide +kernel
theorem dL_law_241 : decode cL_law 241 = .ok (.aload_n 2, 1) := by decide +kernel
theorem dL_law_242 : decode cL_law 242 = .ok (.aload_n 0, 1) := by decide +kernel
theorem dL_law_243 : decode cL_law 243 = .ok (.iload_n 3, 1) := by decide +kernel
theorem dL_law_244 : decode cL_law 244 = .ok (.iconst 1, 1) := by decide +kernel
theorem dL_law_245 : decode cL_law 245 = .ok (.iadd, 1) := by decide +kernel
theorem dL_law_246 : decode cL_law 246 = .ok (.iaload, 1) := by decide +kernel
theorem dL_law_247 : decode cL_law 247 = .ok (.aload_n 0, 1) := by decide +kernel
theorem dL_law_248 : decode cL_law 248 = .ok (.iload_n 3, 1) := by decide +kernel
theorem dL_law_249 : decode cL_law 249 = .ok (.iconst 2, 1) := by decide +kernel
theorem dL_law_250 : decode cL_law 250 = .ok (.iadd, 1) := by decide +kernel
theorem dL_law_251 : decode cL_law 251 = .ok (.iaload, 1) := by decide +kernel
theorem dL_law_252 : decode cL_law 252 = .ok (.invokevirtual 22, 3) := by decide +kernel
theorem dL_law_255 : decode cL_law 255 = .ok (.if_icmp .eq 1176, 3) := by decide +kernel
theorem dL_law_258 : decode cL_law 258 = .ok (.iconst 0, 1) := by decide +kernel
theorem dL_law_259 : decode cL_law 259 = .ok (.ireturn, 1) := by decide +kernel
theorem dL_law_260 : decode cL_law 260 = .ok (.aload_n 1, 1) := by decide +kernel
theorem dL_law_261 : decode cL_law 261 = .ok (.aload_n 0, 1) := by decide +kernel
theorem dL_law_262 : decode cL_law 262 = .ok (.iload_n 3, 1) := by decide +kernel
theorem dL_law_263 : decode cL_law 263 = .ok (.iconst 1, 1) := by decide +kernel
theorem dL_law_264 : decode cL_law 264 = .ok (.iadd, 1) := by decide +kernel
theorem dL_law_265 : decode cL_law 265 = .ok (.iaload, 1) := by decide +kernel
theorem dL_law_266 : decode cL_law 266 = .ok (.aload_n 0, 1) := by decide +kernel
theorem dL_law_267 : decode cL_law 267 = .ok (.iload_n 3, 1) := by decide +kernel
theorem dL_law_268 : decode cL_law 268 = .ok (.iconst 2, 1) := by decide +kernel
theorem dL_law_269 : decode cL_law 269 = .ok (.iadd, 1) := by decide +kernel
theorem dL_law_270 : decode cL_law 270 = .ok (.iaload, 1) := by decide +kernel
theorem dL_law_271 : decode cL_law 271 = .ok (.invokevirtual 23, 3) := by decide +kernel
theorem dL_law_274 : decode cL_law 274 = .ok (.aload_n 2, 1) := by decide +kernel
theorem dL_law_275 : decode cL_law 275 = .ok (.aload_n 0, 1) := by decide +kernel
theorem dL_law_276 : decode cL_law 276 = .ok (.iload_n 3, 1) := by decide +kernel
theorem dL_law_277 : decode cL_law 277 = .ok (.iconst 1, 1) := by decide +kernel
theorem dL_law_278 : decode cL_law 278 = .ok (.iadd, 1) := by decide +kernel
theorem dL_law_279 : decode cL_law 279 = .ok (.iaload, 1) := by decide +kernel
theorem dL_law_280 : decode cL_law 280 = .ok (.aload_n 0, 1) := by decide +kernel
theorem dL_law_281 : decode cL_law 281 = .ok (.iload_n 3, 1) := by decide +kernel
theorem dL_law_282 : decode cL_law 282 = .ok (.iconst 2, 1) := by decide +kernel
theorem dL_law_283 : decode cL_law 283 = .ok (.iadd, 1) := by decide +kernel
theorem dL_law_284 : decode cL_law 284 = .ok (.iaload, 1) := by decide +kernel
theorem dL_law_285 : decode cL_law 285 = .ok (.invokevirtual 26, 3) := by decide +kernel
theorem dL_law_288 : decode cL_law 288 = .ok (.if_icmp .eq 1143, 3) := by decide +kernel
theorem dL_law_291 : decode cL_law 291 = .ok (.iconst 0, 1) := by decide +kernel
theorem dL_law_292 : decode cL_law 292 = .ok (.ireturn, 1) := by decide +kernel
theorem dL_law_293 : decode cL_law 293 = .ok (.aload_n 1, 1) := by decide +kernel
theorem dL_law_294 : decode cL_law 294 = .ok (.aload_n 0, 1) := by decide +kernel
theorem dL_law_295 : decode cL_law 295 = .ok (.iload_n 3, 1) := by decide +kernel
theorem dL_law_296 : decode cL_law 296 = .ok (.iconst 1, 1) := by decide +kernel
theorem dL_law_297 : decode cL_law 297 = .ok (.iadd, 1) := by decide +kernel
theorem dL_law_298 : decode cL_law 298 = .ok (.iaload, 1) := by decide +kernel
theorem dL_law_299 : decode cL_law 299 = .ok (.aload_n 0, 1) := by decide +kernel
theorem dL_law_300 : decode cL_law 300 = .ok (.iload_n 3, 1) := by decide +kernel
theorem dL_law_301 : decode cL_law 301 = .ok (.iconst 2, 1) := by decide +kernel
theorem dL_law_302 : decode cL_law 302 = .ok (.iadd, 1) := by decide +kernel
theorem dL_law_303 : decode cL_law 303 = .ok (.iaload, 1) := by decide +kernel
theorem dL_law_304 : decode cL_law 304 = .ok (.aload_n 0, 1) := by decide +kernel
theorem dL_law_305 : decode cL_law 305 = .ok (.iload_n 3, 1) := by decide +kernel
theorem dL_law_306 : decode cL_law 306 = .ok (.iconst 3, 1) := by decide +kernel
theorem dL_law_307 : decode cL_law 307 = .ok (.iadd, 1) := by decide +kernel
theorem dL_law_308 : decode cL_law 308 = .ok (.iaload, 1) := by decide +kernel
theorem dL_law_309 : decode cL_law 309 = .ok (.invokevirtual 27, 3) := by decide +kernel
theorem dL_law_312 : decode cL_law 312 = .ok (.aload_n 2, 1) := by decide +kernel
theorem dL_law_313 : decode cL_law 313 = .ok (.aload_n 0, 1) := by decide +kernel
theorem dL_law_314 : decode cL_law 314 = .ok (.iload_n 3, 1) := by decide +kernel
theorem dL_law_315 : decode cL_law 315 = .ok (.iconst 1, 1) := by decide +kernel
theorem dL_law_316 : decode cL_law 316 = .ok (.iadd, 1) := by decide +kernel
theorem dL_law_317 : decode cL_law 317 = .ok (.iaload, 1) := by decide +kernel
theorem dL_law_318 : decode cL_law 318 = .ok (.aload_n 0, 1) := by decide +kernel
theorem dL_law_319 : decode cL_law 319 = .ok (.iload_n 3, 1) := by decide +kernel
theorem dL_law_320 : decode cL_law 320 = .ok (.iconst 2, 1) := by decide +kernel
theorem dL_law_321 : decode cL_law 321 = .ok (.iadd, 1) := by decide +kernel
theorem dL_law_322 : decode cL_law 322 = .ok (.iaload, 1) := by decide +kernel
theorem dL_law_323 : decode cL_law 323 = .ok (.aload_n 0, 1) := by decide +kernel
theorem dL_law_324 : decode cL_law 324 = .ok (.iload_n 3, 1) := by decide +kernel
theorem dL_law_325 : decode cL_law 325 = .ok (.iconst 3, 1) := by decide +kernel
theorem dL_law_326 : decode cL_law 326 = .ok (.iadd, 1) := by decide +kernel
theorem dL_law_327 : decode cL_law 327 = .ok (.iaload, 1) := by decide +kernel
theorem dL_law_328 : decode cL_law 328 = .ok (.invokevirtual 31, 3) := by decide +kernel
theorem dL_law_331 : decode cL_law 331 = .ok (.if_icmp .eq 1100, 3) := by decide +kernel
theorem dL_law_334 : decode cL_law 334 = .ok (.iconst 0, 1) := by decide +kernel
theorem dL_law_335 : decode cL_law 335 = .ok (.ireturn, 1) := by decide +kernel
theorem dL_law_336 : decode cL_law 336 = .ok (.aload_n 1, 1) := by decide +kernel
theorem dL_law_337 : decode cL_law 337 = .ok (.aload_n 0, 1) := by decide +kernel
theorem dL_law_338 : decode cL_law 338 = .ok (.iload_n 3, 1) := by decide +kernel
theorem dL_law_339 : decode cL_law 339 = .ok (.iconst 1, 1) := by decide +kernel
theorem dL_law_340 : decode cL_law 340 = .ok (.iadd, 1) := by decide +kernel
theorem dL_law_341 : decode cL_law 341 = .ok (.iaload, 1) := by decide +kernel
theorem dL_law_342 : decode cL_law 342 = .ok (.aload_n 0, 1) := by decide +kernel
theorem dL_law_343 : decode cL_law 343 = .ok (.iload_n 3, 1) := by decide +kernel
theorem dL_law_344 : decode cL_law 344 = .ok (.iconst 2, 1) := by decide +kernel
theorem dL_law_345 : decode cL_law 345 = .ok (.iadd, 1) := by decide +kernel
theorem dL_law_346 : decode cL_law 346 = .ok (.iaload, 1) := by decide +kernel
theorem dL_law_347 : decode cL_law 347 = .ok (.aload_n 0, 1) := by decide +kernel
theorem dL_law_348 : decode cL_law 348 = .ok (.iload_n 3, 1) := by decide +kernel
theorem dL_law_349 : decode cL_law 349 = .ok (.iconst 3, 1) := by decide +kernel
theorem dL_law_350 : decode cL_law 350 = .ok (.iadd, 1) := by decide +kernel
theorem dL_law_351 : decode cL_law 351 = .ok (.iaload, 1) := by decide +kernel
theorem dL_law_352 : decode cL_law 352 = .ok (.invokevirtual 32, 3) := by decide +kernel
theorem dL_law_355 : decode cL_law 355 = .ok (.aload_n 2, 1) := by decide +kernel
theorem dL_law_356 : decode cL_law 356 = .ok (.aload_n 0, 1) := by decide +kernel
theorem dL_law_357 : decode cL_law 357 = .ok (.iload_n 3, 1) := by decide +kernel
theorem dL_law_358 : decode cL_law 358 = .ok (.iconst 1, 1) := by decide +kernel
theorem dL_law_359 : decode cL_law 359 = .ok (.iadd, 1) := by decide +kernel
theorem dL_law_360 : decode cL_law 360 = .ok (.iaload, 1) := by decide +kernel
theorem dL_law_361 : decode cL_law 361 = .ok (.aload_n 0, 1) := by decide +kernel
theorem dL_law_362 : decode cL_law 362 = .ok (.iload_n 3, 1) := by decide +kernel
theorem dL_law_363 : decode cL_law 363 = .ok (.iconst 2, 1) := by decide +kernel
theorem dL_law_364 : decode cL_law 364 = .ok (.iadd, 1) := by decide +kernel
theorem dL_law_365 : decode cL_law 365 = .ok (.iaload, 1) := by decide +kernel
theorem dL_law_366 : decode cL_law 366 = .ok (.aload_n 0, 1) := by decide +kernel
theorem dL_law_367 : decode cL_law 367 = .ok (.iload_n 3, 1) := by decide +kernel
theorem dL_law_368 : decode cL_law 368 = .ok (.iconst 3, 1) := by decide +kernel
theorem dL_law_369 : decode cL_law 369 = .ok (.iadd, 1) := by decide +kernel
theorem dL_law_370 : decode cL_law 370 = .ok (.iaload, 1) := by decide +kernel
theorem dL_law_371 : decode cL_law 371 = .ok (.invokevirtual 35, 3) := by decide +kernel
theorem dL_law_374 : decode cL_law 374 = .ok (.if_icmp .eq 1057, 3) := by decide +kernel
theorem dL_law_377 : decode cL_law 377 = .ok (.iconst 0, 1) := by decide +kernel
theorem dL_law_378 : decode cL_law 378 = .ok (.ireturn, 1) := by decide +kernel
theorem dL_law_379 : decode cL_law 379 = .ok (.aload_n 1, 1) := by decide +kernel
theorem dL_law_380 : decode cL_law 380 = .ok (.aload_n 0, 1) := by decide +kernel
theorem dL_law_381 : decode cL_law 381 = .ok (.iload_n 3, 1) := by decide +kernel
theorem dL_law_382 : decode cL_law 382 = .ok (.iconst 1, 1) := by decide +kernel
theorem dL_law_383 : decode cL_law 383 = .ok (.iadd, 1) := by decide +kernel
theorem dL_law_384 : decode cL_law 384 = .ok (.iaload, 1) := by decide +kernel
theorem dL_law_385 : decode cL_law 385 = .ok (.aload_n 0, 1) := by decide +kernel
theorem dL_law_386 : decode cL_law 386 = .ok (.iload_n 3, 1) := by decide +kernel
theorem dL_law_387 : decode cL_law 387 = .ok (.iconst 2, 1) := by decide +kernel
theorem dL_law_388 : decode cL_law 388 = .ok (.iadd, 1) := by decide +kernel
theorem dL_law_389 : decode cL_law 389 = .ok (.iaload, 1) := by decide +kernel
theorem dL_law_390 : decode cL_law 390 = .ok (.invokevirtual 36, 3) := by decide +kernel
theorem dL_law_393 : decode cL_law 393 = .ok (.aload_n 2, 1) := by decide +kernel
theorem dL_law_394 : decode cL_law 394 = .ok (.aload_n 0, 1) := by decide +kernel
theorem dL_law_395 : decode cL_law 395 = .ok (.iload_n 3, 1) := by decide +kernel
theorem dL_law_396 : decode cL_law 396 = .ok (.iconst 1, 1) := by decide +kernel
theorem dL_law_397 : decode cL_law 397 = .ok (.iadd, 1) := by decide +kernel
theorem dL_law_398 : decode cL_law 398 = .ok (.iaload, 1) := by decide +kernel
theorem dL_law_399 : decode cL_law 399 = .ok (.aload_n 0, 1) := by decide +kernel
theorem dL_law_400 : decode cL_law 400 = .ok (.iload_n 3, 1) := by decide +kernel
theorem dL_law_401 : decode cL_law 401 = .ok (.iconst 2, 1) := by decide +kernel
theorem dL_law_402 : decode cL_law 402 = .ok (.iadd, 1) := by decide +kernel
theorem dL_law_403 : decode cL_law 403 = .ok (.iaload, 1) := by decide +kernel
theorem dL_law_404 : decode cL_law 404 = .ok (.invokevirtual 39, 3) := by decide +kernel
theorem dL_law_407 : decode cL_law 407 = .ok (.if_icmp .eq 1024, 3) := by decide +kernel
theorem dL_law_410 : decode cL_law 410 = .ok (.iconst 0, 1) := by decide +kernel
theorem dL_law_411 : decode cL_law 411 = .ok (.ireturn, 1) := by decide +kernel
theorem dL_law_412 : decode cL_law 412 = .ok (.aload_n 1, 1) := by decide +kernel
theorem dL_law_413 : decode cL_law 413 = .ok (.aload_n 0, 1) := by decide +kernel
theorem dL_law_414 : decode cL_law 414 = .ok (.iload_n 3, 1) := by decide +kernel
theorem dL_law_415 : decode cL_law 415 = .ok (.iconst 1, 1) := by decide +kernel
theorem dL_law_416 : decode cL_law 416 = .ok (.iadd, 1) := by decide +kernel
theorem dL_law_417 : decode cL_law 417 = .ok (.iaload, 1) := by decide +kernel
theorem dL_law_418 : decode cL_law 418 = .ok (.invokevirtual 40, 3) := by decide +kernel
theorem dL_law_421 : decode cL_law 421 = .ok (.aload_n 2, 1) := by decide +kernel
theorem dL_law_422 : decode cL_law 422 = .ok (.aload_n 0, 1) := by decide +kernel
theorem dL_law_423 : decode cL_law 423 = .ok (.iload_n 3, 1) := by decide +kernel
theorem dL_law_424 : decode cL_law 424 = .ok (.iconst 1, 1) := by decide +kernel
theorem dL_law_425 : decode cL_law 425 = .ok (.iadd, 1) := by decide +kernel
theorem dL_law_426 : decode cL_law 426 = .ok (.iaload, 1) := by decide +kernel
theorem dL_law_427 : decode cL_law 427 = .ok (.invokevirtual 43, 3) := by decide +kernel
theorem dL_law_430 : decode cL_law 430 = .ok (.if_icmp .eq 1001, 3) := by decide +kernel
theorem dL_law_433 : decode cL_law 433 = .ok (.iconst 0, 1) := by decide +kernel
theorem dL_law_434 : decode cL_law 434 = .ok (.ireturn, 1) := by decide +kernel
theorem dL_law_435 : decode cL_law 435 = .ok (.aload_n 1, 1) := by decide +kernel
theorem dL_law_436 : decode cL_law 436 = .ok (.aload_n 0, 1) := by decide +kernel
theorem dL_law_437 : decode cL_law 437 = .ok (.iload_n 3, 1) := by decide +kernel
theorem dL_law_438 : decode cL_law 438 = .ok (.iconst 1, 1) := by decide +kernel
theorem dL_law_439 : decode cL_law 439 = .ok (.iadd, 1) := by decide +kernel
theorem dL_law_440 : decode cL_law 440 = .ok (.iaload, 1) := by decide +kernel
theorem dL_law_441 : decode cL_law 441 = .ok (.aload_n 0, 1) := by decide +kernel
theorem dL_law_442 : decode cL_law 442 = .ok (.iload_n 3, 1) := by decide +kernel
theorem dL_law_443 : decode cL_law 443 = .ok (.iconst 2, 1) := by decide +kernel
theorem dL_law_444 : decode cL_law 444 = .ok (.iadd, 1) := by decide +kernel
theorem dL_law_445 : decode cL_law 445 = .ok (.iaload, 1) := by decide +kernel
theorem dL_law_446 : decode cL_law 446 = .ok (.aload_n 0, 1) := by decide +kernel
theorem dL_law_447 : decode cL_law 447 = .ok (.iload_n 3, 1) := by decide +kernel
theorem dL_law_448 : decode cL_law 448 = .ok (.iconst 3, 1) := by decide +kernel
theorem dL_law_449 : decode cL_law 449 = .ok (.iadd, 1) := by decide +kernel
theorem dL_law_450 : decode cL_law 450 = .ok (.iaload, 1) := by decide +kernel
theorem dL_law_451 : decode cL_law 451 = .ok (.invokevirtual 44, 3) := by decide +kernel
theorem dL_law_454 : decode cL_law 454 = .ok (.aload_n 2, 1) := by decide +kernel
theorem dL_law_455 : decode cL_law 455 = .ok (.aload_n 0, 1) := by decide +kernel
theorem dL_law_456 : decode cL_law 456 = .ok (.iload_n 3, 1) := by decide +kernel
theorem dL_law_457 : decode cL_law 457 = .ok (.iconst 1, 1) := by decide +kernel
theorem dL_law_458 : decode cL_law 458 = .ok (.iadd, 1) := by decide +kernel
theorem dL_law_459 : decode cL_law 459 = .ok (.iaload, 1) := by decide +kernel
theorem dL_law_460 : decode cL_law 460 = .ok (.aload_n 0, 1) := by decide +kernel
theorem dL_law_461 : decode cL_law 461 = .ok (.iload_n 3, 1) := by decide +kernel
theorem dL_law_462 : decode cL_law 462 = .ok (.iconst 2, 1) := by decide +kernel
theorem dL_law_463 : decode cL_law 463 = .ok (.iadd, 1) := by decide +kernel
theorem dL_law_464 : decode cL_law 464 = .ok (.iaload, 1) := by decide +kernel
theorem dL_law_465 : decode cL_law 465 = .ok (.aload_n 0, 1) := by decide +kernel
theorem dL_law_466 : decode cL_law 466 = .ok (.iload_n 3, 1) := by decide +kernel
theorem dL_law_467 : decode cL_law 467 = .ok (.iconst 3, 1) := by decide +kernel
theorem dL_law_468 : decode cL_law 468 = .ok (.iadd, 1) := by decide +kernel
theorem dL_law_469 : decode cL_law 469 = .ok (.iaload, 1) := by decide +kernel
theorem dL_law_470 : decode cL_law 470 = .ok (.invokevirtual 47, 3) := by decide +kernel
theorem dL_law_473 : decode cL_law 473 = .ok (.if_icmp .eq 958, 3) := by decide +kernel
theorem dL_law_476 : decode cL_law 476 = .ok (.iconst 0, 1) := by decide +kernel
theorem dL_law_477 : decode cL_law 477 = .ok (.ireturn, 1) := by decide +kernel
theorem dL_law_478 : decode cL_law 478 = .ok (.aload_n 1, 1) := by decide +kernel
theorem dL_law_479 : decode cL_law 479 = .ok (.aload_n 0, 1) := by decide +kernel
theorem dL_law_480 : decode cL_law 480 = .ok (.iload_n 3, 1) := by decide +kernel
theorem dL_law_481 : decode cL_law 481 = .ok (.iconst 1, 1) := by decide +kernel
theorem dL_law_482 : decode cL_law 482 = .ok (.iadd, 1) := by decide +kernel
theorem dL_law_483 : decode cL_law 483 = .ok (.iaload, 1) := by decide +kernel
theorem dL_law_484 : decode cL_law 484 = .ok (.aload_n 0, 1) := by decide +kernel
theorem dL_law_485 : decode cL_law 485 = .ok (.iload_n 3, 1) := by decide +kernel
theorem dL_law_486 : decode cL_law 486 = .ok (.iconst 2, 1) := by decide +kernel
theorem dL_law_487 : decode cL_law 487 = .ok (.iadd, 1) := by decide +kernel
theorem dL_law_488 : decode cL_law 488 = .ok (.iaload, 1) := by decide +kernel
theorem dL_law_489 : decode cL_law 489 = .ok (.invokevirtual 48, 3) := by decide +kernel
theorem dL_law_492 : decode cL_law 492 = .ok (.aload_n 2, 1) := by decide +kernel
theorem dL_law_493 : decode cL_law 493 = .ok (.aload_n 0, 1) := by decide +kernel
theorem dL_law_494 : decode cL_law 494 = .ok (.iload_n 3, 1) := by decide +kernel
theorem dL_law_495 : decode cL_law 495 = .ok (.iconst 1, 1) := by decide +kernel
theorem dL_law_496 : decode cL_law 496 = .ok (.iadd, 1) := by decide +kernel
theorem dL_law_497 : decode cL_law 497 = .ok (.iaload, 1) := by decide +kernel
theorem dL_law_498 : decode cL_law 498 = .ok (.aload_n 0, 1) := by decide +kernel
theorem dL_law_499 : decode cL_law 499 = .ok (.iload_n 3, 1) := by decide +kernel
theorem dL_law_500 : decode cL_law 500 = .ok (.iconst 2, 1) := by decide +kernel
theorem dL_law_501 : decode cL_law 501 = .ok (.iadd, 1) := by decide +kernel
theorem dL_law_502 : decode cL_law 502 = .ok (.iaload, 1) := by decide +kernel
theorem dL_law_503 : decode cL_law 503 = .ok (.invokevirtual 51, 3) := by decide +kernel
theorem dL_law_506 : decode cL_law 506 = .ok (.if_icmp .eq 925, 3) := by decide +kernel
theorem dL_law_509 : decode cL_law 509 = .ok (.iconst 0, 1) := by decide +kernel
theorem dL_law_510 : decode cL_law 510 = .ok (.ireturn, 1) := by decide +kernel
theorem dL_law_511 : decode cL_law 511 = .ok (.aload_n 1, 1) := by decide +kernel
theorem dL_law_512 : decode cL_law 512 = .ok (.aload_n 0, 1) := by decide +kernel
theorem dL_law_513 : decode cL_law 513 = .ok (.iload_n 3, 1) := by decide +kernel
theorem dL_law_514 : decode cL_law 514 = .ok (.iconst 1, 1) := by decide +kernel
theorem dL_law_515 : decode cL_law 515 = .ok (.iadd, 1) := by decide +kernel
theorem dL_law_516 : decode cL_law 516 = .ok (.iaload, 1) := by decide +kernel
theorem dL_law_517 : decode cL_law 517 = .ok (.i2l, 1) := by decide +kernel
theorem dL_law_518 : decode cL_law 518 = .ok (.bipush 32, 2) := by decide +kernel
theorem dL_law_520 : decode cL_law 520 = .ok (.lshl, 1) := by decide +kernel
theorem dL_law_521 : decode cL_law 521 = .ok (.aload_n 0, 1) := by decide +kernel
theorem dL_law_522 : decode cL_law 522 = .ok (.iload_n 3, 1) := by decide +kernel
theorem dL_law_523 : decode cL_law 523 = .ok (.iconst 2, 1) := by decide +kernel
theorem dL_law_524 : decode cL_law 524 = .ok (.iadd, 1) := by decide +kernel
theorem dL_law_525 : decode cL_law 525 = .ok (.iaload, 1) := by decide +kernel
theorem dL_law_526 : decode cL_law 526 = .ok (.i2l, 1) := by decide +kernel
theorem dL_law_527 : decode cL_law 527 = .ok (.ldc2_w 52, 3) := by decide +kernel
theorem dL_law_530 : decode cL_law 530 = .ok (.land, 1) := by decide +kernel
theorem dL_law_531 : decode cL_law 531 = .ok (.lor, 1) := by decide +kernel
theorem dL_law_532 : decode cL_law 532 = .ok (.aload_n 0, 1) := by decide +kernel
theorem dL_law_533 : decode cL_law 533 = .ok (.iload_n 3, 1) := by decide +kernel
theorem dL_law_534 : decode cL_law 534 = .ok (.iconst 3, 1) := by decide +kernel
theorem dL_law_535 : decode cL_law 535 = .ok (.iadd, 1) := by decide +kernel
theorem dL_law_536 : decode cL_law 536 = .ok (.iaload, 1) := by decide +kernel
theorem dL_law_537 : decode cL_law 537 = .ok (.invokevirtual 54, 3) := by decide +kernel
theorem dL_law_540 : decode cL_law 540 = .ok (.aload_n 2, 1) := by decide +kernel
theorem dL_law_541 : decode cL_law 541 = .ok (.aload_n 0, 1) := by decide +kernel
theorem dL_law_542 : decode cL_law 542 = .ok (.iload_n 3, 1) := by decide +kernel
theorem dL_law_543 : decode cL_law 543 = .ok (.iconst 1, 1) := by decide +kernel
theorem dL_law_544 : decode cL_law 544 = .ok (.iadd, 1) := by decide +kernel
theorem dL_law_545 : decode cL_law 545 = .ok (.iaload, 1) := by decide +kernel
theorem dL_law_546 : decode cL_law 546 = .ok (.i2l, 1) := by decide +kernel
theorem dL_law_547 : decode cL_law 547 = .ok (.bipush 32, 2) := by decide +kernel
theorem dL_law_549 : decode cL_law 549 = .ok (.lshl, 1) := by decide +kernel
theorem dL_law_550 : decode cL_law 550 = .ok (.aload_n 0, 1) := by decide +kernel
theorem dL_law_551 : decode cL_law 551 = .ok (.iload_n 3, 1) := by decide +kernel
theorem dL_law_552 : decode cL_law 552 = .ok (.iconst 2, 1) := by decide +kernel
theorem dL_law_553 : decode cL_law 553 = .ok (.iadd, 1) := by decide +kernel
theorem dL_law_554 : decode cL_law 554 = .ok (.iaload, 1) := by decide +kernel
theorem dL_law_555 : decode cL_law 555 = .ok (.i2l, 1) := by decide +kernel
theorem dL_law_556 : decode cL_law 556 = .ok (.ldc2_w 52, 3) := by decide +kernel
theorem dL_law_559 : decode cL_law 559 = .ok (.land, 1) := by decide +kernel
theorem dL_law_560 : decode cL_law 560 = .ok (.lor, 1) := by decide +kernel
theorem dL_law_561 : decode cL_law 561 = .ok (.aload_n 0, 1) := by decide +kernel
theorem dL_law_562 : decode cL_law 562 = .ok (.iload_n 3, 1) := by decide +kernel
theorem dL_law_563 : decode cL_law 563 = .ok (.iconst 3, 1) := by decide +kernel
theorem dL_law_564 : decode cL_law 564 = .ok (.iadd, 1) := by decide +kernel
theorem dL_law_565 : decode cL_law 565 = .ok (.iaload, 1) := by decide +kernel
theorem dL_law_566 : decode cL_law 566 = .ok (.invokevirtual 58, 3) := by decide +kernel
theorem dL_law_569 : decode cL_law 569 = .ok (.if_icmp .eq 862, 3) := by decide +kernel
theorem dL_law_572 : decode cL_law 572 = .ok (.iconst 0, 1) := by decide +kernel
theorem dL_law_573 : decode cL_law 573 = .ok (.ireturn, 1) := by decide +kernel
theorem dL_law_574 : decode cL_law 574 = .ok (.aload_n 1, 1) := by decide +kernel
theorem dL_law_575 : decode cL_law 575 = .ok (.aload_n 0, 1) := by decide +kernel
theorem dL_law_576 : decode cL_law 576 = .ok (.iload_n 3, 1) := by decide +kernel
theorem dL_law_577 : decode cL_law 577 = .ok (.iconst 1, 1) := by decide +kernel
theorem dL_law_578 : decode cL_law 578 = .ok (.iadd, 1) := by decide +kernel
theorem dL_law_579 : decode cL_law 579 = .ok (.iaload, 1) := by decide +kernel
theorem dL_law_580 : decode cL_law 580 = .ok (.invokevirtual 59, 3) := by decide +kernel
theorem dL_law_583 : decode cL_law 583 = .ok (.aload_n 2, 1) := by decide +kernel
theorem dL_law_584 : decode cL_law 584 = .ok (.aload_n 0, 1) := by decide +kernel
theorem dL_law_585 : decode cL_law 585 = .ok (.iload_n 3, 1) := by decide +kernel
theorem dL_law_586 : decode cL_law 586 = .ok (.iconst 1, 1) := by decide +kernel
theorem dL_law_587 : decode cL_law 587 = .ok (.iadd, 1) := by decide +kernel
theorem dL_law_588 : decode cL_law 588 = .ok (.iaload, 1) := by decide +kernel
theorem dL_law_589 : decode cL_law 589 = .ok (.invokevirtual 62, 3) := by decide +kernel
theorem dL_law_592 : decode cL_law 592 = .ok (.if_icmp .eq 839, 3) := by decide +kernel
theorem dL_law_595 : decode cL_law 595 = .ok (.iconst 0, 1) := by decide +kernel
theorem dL_law_596 : decode cL_law 596 = .ok (.ireturn, 1) := by decide +kernel
theorem dL_law_597 : decode cL_law 597 = .ok (.aload_n 1, 1) := by decide +kernel
theorem dL_law_598 : decode cL_law 598 = .ok (.aload_n 0, 1) := by decide +kernel
theorem dL_law_599 : decode cL_law 599 = .ok (.iload_n 3, 1) := by decide +kernel
theorem dL_law_600 : decode cL_law 600 = .ok (.iconst 1, 1) := by decide +kernel
theorem dL_law_601 : decode cL_law 601 = .ok (.iadd, 1) := by decide +kernel
theorem dL_law_602 : decode cL_law 602 = .ok (.iaload, 1) := by decide +kernel
theorem dL_law_603 : decode cL_law 603 = .ok (.invokevirtual 63, 3) := by decide +kernel
theorem dL_law_606 : decode cL_law 606 = .ok (.aload_n 2, 1) := by decide +kernel
theorem dL_law_607 : decode cL_law 607 = .ok (.aload_n 0, 1) := by decide +kernel
theorem dL_law_608 : decode cL_law 608 = .ok (.iload_n 3, 1) := by decide +kernel
theorem dL_law_609 : decode cL_law 609 = .ok (.iconst 1, 1) := by decide +kernel
theorem dL_law_610 : decode cL_law 610 = .ok (.iadd, 1) := by decide +kernel
theorem dL_law_611 : decode cL_law 611 = .ok (.iaload, 1) := by decide +kernel
theorem dL_law_612 : decode cL_law 612 = .ok (.invokevirtual 66, 3) := by decide +kernel
theorem dL_law_615 : decode cL_law 615 = .ok (.if_icmp .eq 816, 3) := by decide +kernel
theorem dL_law_618 : decode cL_law 618 = .ok (.iconst 0, 1) := by decide +kernel
theorem dL_law_619 : decode cL_law 619 = .ok (.ireturn, 1) := by decide +kernel
theorem dL_law_620 : decode cL_law 620 = .ok (.aload_n 1, 1) := by decide +kernel
theorem dL_law_621 : decode cL_law 621 = .ok (.aload_n 0, 1) := by decide +kernel
theorem dL_law_622 : decode cL_law 622 = .ok (.iload_n 3, 1) := by decide +kernel
theorem dL_law_623 : decode cL_law 623 = .ok (.iconst 1, 1) := by decide +kernel
theorem dL_law_624 : decode cL_law 624 = .ok (.iadd, 1) := by decide +kernel
theorem dL_law_625 : decode cL_law 625 = .ok (.iaload, 1) := by decide +kernel
theorem dL_law_626 : decode cL_law 626 = .ok (.invokevirtual 67, 3) := by decide +kernel
theorem dL_law_629 : decode cL_law 629 = .ok (.aload_n 2, 1) := by decide +kernel
theorem dL_law_630 : decode cL_law 630 = .ok (.aload_n 0, 1) := by decide +kernel
theorem dL_law_631 : decode cL_law 631 = .ok (.iload_n 3, 1) := by decide +kernel
theorem dL_law_632 : decode cL_law 632 = .ok (.iconst 1, 1) := by decide +kernel
theorem dL_law_633 : decode cL_law 633 = .ok (.iadd, 1) := by decide +kernel
theorem dL_law_634 : decode cL_law 634 = .ok (.iaload, 1) := by decide +kernel
theorem dL_law_635 : decode cL_law 635 = .ok (.invokevirtual 70, 3) := by decide +kernel
theorem dL_law_638 : decode cL_law 638 = .ok (.if_icmp .eq 793, 3) := by decide +kernel
theorem dL_law_641 : decode cL_law 641 = .ok (.iconst 0, 1) := by decide +kernel
theorem dL_law_642 : decode cL_law 642 = .ok (.ireturn, 1) := by decide +kernel
theorem dL_law_643 : decode cL_law 643 = .ok (.aload_n 1, 1) := by decide +kernel
theorem dL_law_644 : decode cL_law 644 = .ok (.aload_n 0, 1) := by decide +kernel
theorem dL_law_645 : decode cL_law 645 = .ok (.iload_n 3, 1) := by decide +kernel
theorem dL_law_646 : decode cL_law 646 = .ok (.iconst 1, 1) := by decide +kernel
theorem dL_law_647 : decode cL_law 647 = .ok (.iadd, 1) := by decide +kernel
theorem dL_law_648 : decode cL_law 648 = .ok (.iaload, 1) := by decide +kernel
theorem dL_law_649 : decode cL_law 649 = .ok (.invokevirtual 71, 3) := by decide +kernel
theorem dL_law_652 : decode cL_law 652 = .ok (.aload_n 2, 1) := by decide +kernel
theorem dL_law_653 : decode cL_law 653 = .ok (.aload_n 0, 1) := by decide +kernel
theorem dL_law_654 : decode cL_law 654 = .ok (.iload_n 3, 1) := by decide +kernel
theorem dL_law_655 : decode cL_law 655 = .ok (.iconst 1, 1) := by decide +kernel
theorem dL_law_656 : decode cL_law 656 = .ok (.iadd, 1) := by decide +kernel
theorem dL_law_657 : decode cL_law 657 = .ok (.iaload, 1) := by decide +kernel
theorem dL_law_658 : decode cL_law 658 = .ok (.invokevirtual 74, 3) := by decide +kernel
theorem dL_law_661 : decode cL_law 661 = .ok (.if_icmp .eq 770, 3) := by decide +kernel
theorem dL_law_664 : decode cL_law 664 = .ok (.iconst 0, 1) := by decide +kernel
theorem dL_law_665 : decode cL_law 665 = .ok (.ireturn, 1) := by decide +kernel
theorem dL_law_666 : decode cL_law 666 = .ok (.aload_n 1, 1) := by decide +kernel
theorem dL_law_667 : decode cL_law 667 = .ok (.aload_n 0, 1) := by decide +kernel
theorem dL_law_668 : decode cL_law 668 = .ok (.iload_n 3, 1) := by decide +kernel
theorem dL_law_669 : decode cL_law 669 = .ok (.iconst 1, 1) := by decide +kernel
theorem dL_law_670 : decode cL_law 670 = .ok (.iadd, 1) := by decide +kernel
theorem dL_law_671 : decode cL_law 671 = .ok (.iaload, 1) := by decide +kernel
theorem dL_law_672 : decode cL_law 672 = .ok (.invokevirtual 75, 3) := by decide +kernel
theorem dL_law_675 : decode cL_law 675 = .ok (.aload_n 2, 1) := by decide +kernel
theorem dL_law_676 : decode cL_law 676 = .ok (.aload_n 0, 1) := by decide +kernel
theorem dL_law_677 : decode cL_law 677 = .ok (.iload_n 3, 1) := by decide +kernel
theorem dL_law_678 : decode cL_law 678 = .ok (.iconst 1, 1) := by decide +kernel
theorem dL_law_679 : decode cL_law 679 = .ok (.iadd, 1) := by decide +kernel
theorem dL_law_680 : decode cL_law 680 = .ok (.iaload, 1) := by decide +kernel
theorem dL_law_681 : decode cL_law 681 = .ok (.invokevirtual 78, 3) := by decide +kernel
theorem dL_law_684 : decode cL_law 684 = .ok (.if_icmp .eq 747, 3) := by decide +kernel
theorem dL_law_687 : decode cL_law 687 = .ok (.iconst 0, 1) := by decide +kernel
theorem dL_law_688 : decode cL_law 688 = .ok (.ireturn, 1) := by decide +kernel
theorem dL_law_689 : decode cL_law 689 = .ok (.aload_n 1, 1) := by decide +kernel
theorem dL_law_690 : decode cL_law 690 = .ok (.aload_n 0, 1) := by decide +kernel
theorem dL_law_691 : decode cL_law 691 = .ok (.iload_n 3, 1) := by decide +kernel
theorem dL_law_692 : decode cL_law 692 = .ok (.iconst 1, 1) := by decide +kernel
theorem dL_law_693 : decode cL_law 693 = .ok (.iadd, 1) := by decide +kernel
theorem dL_law_694 : decode cL_law 694 = .ok (.iaload, 1) := by decide +kernel
theorem dL_law_695 : decode cL_law 695 = .ok (.invokevirtual 79, 3) := by decide +kernel
theorem dL_law_698 : decode cL_law 698 = .ok (.aload_n 2, 1) := by decide +kernel
theorem dL_law_699 : decode cL_law 699 = .ok (.aload_n 0, 1) := by decide +kernel
theorem dL_law_700 : decode cL_law 700 = .ok (.iload_n 3, 1) := by decide +kernel
theorem dL_law_701 : decode cL_law 701 = .ok (.iconst 1, 1) := by decide +kernel
theorem dL_law_702 : decode cL_law 702 = .ok (.iadd, 1) := by decide +kernel
theorem dL_law_703 : decode cL_law 703 = .ok (.iaload, 1) := by decide +kernel
theorem dL_law_704 : decode cL_law 704 = .ok (.invokevirtual 82, 3) := by decide +kernel
theorem dL_law_707 : decode cL_law 707 = .ok (.if_icmp .eq 724, 3) := by decide +kernel
theorem dL_law_710 : decode cL_law 710 = .ok (.iconst 0, 1) := by decide +kernel
theorem dL_law_711 : decode cL_law 711 = .ok (.ireturn, 1) := by decide +kernel
theorem dL_law_712 : decode cL_law 712 = .ok (.aload_n 1, 1) := by decide +kernel
theorem dL_law_713 : decode cL_law 713 = .ok (.aload_n 0, 1) := by decide +kernel
theorem dL_law_714 : decode cL_law 714 = .ok (.iload_n 3, 1) := by decide +kernel
theorem dL_law_715 : decode cL_law 715 = .ok (.iconst 1, 1) := by decide +kernel
theorem dL_law_716 : decode cL_law 716 = .ok (.iadd, 1) := by decide +kernel
theorem dL_law_717 : decode cL_law 717 = .ok (.iaload, 1) := by decide +kernel
theorem dL_law_718 : decode cL_law 718 = .ok (.aload_n 0, 1) := by decide +kernel
theorem dL_law_719 : decode cL_law 719 = .ok (.iload_n 3, 1) := by decide +kernel
theorem dL_law_720 : decode cL_law 720 = .ok (.iconst 2, 1) := by decide +kernel
theorem dL_law_721 : decode cL_law 721 = .ok (.iadd, 1) := by decide +kernel
theorem dL_law_722 : decode cL_law 722 = .ok (.iaload, 1) := by decide +kernel
theorem dL_law_723 : decode cL_law 723 = .ok (.aload_n 0, 1) := by decide +kernel
theorem dL_law_724 : decode cL_law 724 = .ok (.iload_n 3, 1) := by decide +kernel
theorem dL_law_725 : decode cL_law 725 = .ok (.iconst 3, 1) := by decide +kernel
theorem dL_law_726 : decode cL_law 726 = .ok (.iadd, 1) := by decide +kernel
theorem dL_law_727 : decode cL_law 727 = .ok (.iaload, 1) := by decide +kernel
theorem dL_law_728 : decode cL_law 728 = .ok (.invokevirtual 83, 3) := by decide +kernel
theorem dL_law_731 : decode cL_law 731 = .ok (.aload_n 2, 1) := by decide +kernel
theorem dL_law_732 : decode cL_law 732 = .ok (.aload_n 0, 1) := by decide +kernel
theorem dL_law_733 : decode cL_law 733 = .ok (.iload_n 3, 1) := by decide +kernel
theorem dL_law_734 : decode cL_law 734 = .ok (.iconst 1, 1) := by decide +kernel
theorem dL_law_735 : decode cL_law 735 = .ok (.iadd, 1) := by decide +kernel
theorem dL_law_736 : decode cL_law 736 = .ok (.iaload, 1) := by decide +kernel
theorem dL_law_737 : decode cL_law 737 = .ok (.aload_n 0, 1) := by decide +kernel
theorem dL_law_738 : decode cL_law 738 = .ok (.iload_n 3, 1) := by decide +kernel
theorem dL_law_739 : decode cL_law 739 = .ok (.iconst 2, 1) := by decide +kernel
theorem dL_law_740 : decode cL_law 740 = .ok (.iadd, 1) := by decide +kernel
theorem dL_law_741 : decode cL_law 741 = .ok (.iaload, 1) := by decide +kernel
theorem dL_law_742 : decode cL_law 742 = .ok (.aload_n 0, 1) := by decide +kernel
theorem dL_law_743 : decode cL_law 743 = .ok (.iload_n 3, 1) := by decide +kernel
theorem dL_law_744 : decode cL_law 744 = .ok (.iconst 3, 1) := by decide +kernel
theorem dL_law_745 : decode cL_law 745 = .ok (.iadd, 1) := by decide +kernel
theorem dL_law_746 : decode cL_law 746 = .ok (.iaload, 1) := by decide +kernel
theorem dL_law_747 : decode cL_law 747 = .ok (.invokevirtual 86, 3) := by decide +kernel
theorem dL_law_750 : decode cL_law 750 = .ok (.if_icmp .eq 681, 3) := by decide +kernel
theorem dL_law_753 : decode cL_law 753 = .ok (.iconst 0, 1) := by decide +kernel
theorem dL_law_754 : decode cL_law 754 = .ok (.ireturn, 1) := by decide +kernel
theorem dL_law_755 : decode cL_law 755 = .ok (.aload_n 1, 1) := by decide +kernel
theorem dL_law_756 : decode cL_law 756 = .ok (.aload_n 0, 1) := by decide +kernel
theorem dL_law_757 : decode cL_law 757 = .ok (.iload_n 3, 1) := by decide +kernel
theorem dL_law_758 : decode cL_law 758 = .ok (.iconst 1, 1) := by decide +kernel
theorem dL_law_759 : decode cL_law 759 = .ok (.iadd, 1) := by decide +kernel
theorem dL_law_760 : decode cL_law 760 = .ok (.iaload, 1) := by decide +kernel
theorem dL_law_761 : decode cL_law 761 = .ok (.aload_n 0, 1) := by decide +kernel
theorem dL_law_762 : decode cL_law 762 = .ok (.iload_n 3, 1) := by decide +kernel
theorem dL_law_763 : decode cL_law 763 = .ok (.iconst 2, 1) := by decide +kernel
theorem dL_law_764 : decode cL_law 764 = .ok (.iadd, 1) := by decide +kernel
theorem dL_law_765 : decode cL_law 765 = .ok (.iaload, 1) := by decide +kernel
theorem dL_law_766 : decode cL_law 766 = .ok (.aload_n 0, 1) := by decide +kernel
theorem dL_law_767 : decode cL_law 767 = .ok (.iload_n 3, 1) := by decide +kernel
theorem dL_law_768 : decode cL_law 768 = .ok (.iconst 3, 1) := by decide +kernel
theorem dL_law_769 : decode cL_law 769 = .ok (.iadd, 1) := by decide +kernel
theorem dL_law_770 : decode cL_law 770 = .ok (.iaload, 1) := by decide +kernel
theorem dL_law_771 : decode cL_law 771 = .ok (.invokevirtual 87, 3) := by decide +kernel
theorem dL_law_774 : decode cL_law 774 = .ok (.aload_n 2, 1) := by decide +kernel
theorem dL_law_775 : decode cL_law 775 = .ok (.aload_n 0, 1) := by decide +kernel
theorem dL_law_776 : decode cL_law 776 = .ok (.iload_n 3, 1) := by decide +kernel
theorem dL_law_777 : decode cL_law 777 = .ok (.iconst 1, 1) := by decide +kernel
theorem dL_law_778 : decode cL_law 778 = .ok (.iadd, 1) := by decide +kernel
theorem dL_law_779 : decode cL_law 779 = .ok (.iaload, 1) := by decide +kernel
theorem dL_law_780 : decode cL_law 780 = .ok (.aload_n 0, 1) := by decide +kernel
theorem dL_law_781 : decode cL_law 781 = .ok (.iload_n 3, 1) := by decide +kernel
theorem dL_law_782 : decode cL_law 782 = .ok (.iconst 2, 1) := by decide +kernel
theorem dL_law_783 : decode cL_law 783 = .ok (.iadd, 1) := by decide +kernel
theorem dL_law_784 : decode cL_law 784 = .ok (.iaload, 1) := by decide +kernel
theorem dL_law_785 : decode cL_law 785 = .ok (.aload_n 0, 1) := by decide +kernel
theorem dL_law_786 : decode cL_law 786 = .ok (.iload_n 3, 1) := by decide +kernel
theorem dL_law_787 : decode cL_law 787 = .ok (.iconst 3, 1) := by decide +kernel
theorem dL_law_788 : decode cL_law 788 = .ok (.iadd, 1) := by decide +kernel
theorem dL_law_789 : decode cL_law 789 = .ok (.iaload, 1) := by decide +kernel
theorem dL_law_790 : decode cL_law 790 = .ok (.invokevirtual 90, 3) := by decide +kernel
theorem dL_law_793 : decode cL_law 793 = .ok (.if_icmp .eq 638, 3) := by decide +kernel
theorem dL_law_796 : decode cL_law 796 = .ok (.iconst 0, 1) := by decide +kernel
theorem dL_law_797 : decode cL_law 797 = .ok (.ireturn, 1) := by decide +kernel
theorem dL_law_798 : decode cL_law 798 = .ok (.aload_n 1, 1) := by decide +kernel
theorem dL_law_799 : decode cL_law 799 = .ok (.aload_n 0, 1) := by decide +kernel
theorem dL_law_800 : decode cL_law 800 = .ok (.iload_n 3, 1) := by decide +kernel
theorem dL_law_801 : decode cL_law 801 = .ok (.iconst 1, 1) := by decide +kernel
theorem dL_law_802 : decode cL_law 802 = .ok (.iadd, 1) := by decide +kernel
theorem dL_law_803 : decode cL_law 803 = .ok (.iaload, 1) := by decide +kernel
theorem dL_law_804 : decode cL_law 804 = .ok (.aload_n 0, 1) := by decide +kernel
theorem dL_law_805 : decode cL_law 805 = .ok (.iload_n 3, 1) := by decide +kernel
theorem dL_law_806 : decode cL_law 806 = .ok (.iconst 2, 1) := by decide +kernel
theorem dL_law_807 : decode cL_law 807 = .ok (.iadd, 1) := by decide +kernel
theorem dL_law_808 : decode cL_law 808 = .ok (.iaload, 1) := by decide +kernel
theorem dL_law_809 : decode cL_law 809 = .ok (.invokevirtual 91, 3) := by decide +kernel
theorem dL_law_812 : decode cL_law 812 = .ok (.aload_n 2, 1) := by decide +kernel
theorem dL_law_813 : decode cL_law 813 = .ok (.aload_n 0, 1) := by decide +kernel
theorem dL_law_814 : decode cL_law 814 = .ok (.iload_n 3, 1) := by decide +kernel
theorem dL_law_815 : decode cL_law 815 = .ok (.iconst 1, 1) := by decide +kernel
theorem dL_law_816 : decode cL_law 816 = .ok (.iadd, 1) := by decide +kernel
theorem dL_law_817 : decode cL_law 817 = .ok (.iaload, 1) := by decide +kernel
theorem dL_law_818 : decode cL_law 818 = .ok (.aload_n 0, 1) := by decide +kernel
theorem dL_law_819 : decode cL_law 819 = .ok (.iload_n 3, 1) := by decide +kernel
theorem dL_law_820 : decode cL_law 820 = .ok (.iconst 2, 1) := by decide +kernel
theorem dL_law_821 : decode cL_law 821 = .ok (.iadd, 1) := by decide +kernel
theorem dL_law_822 : decode cL_law 822 = .ok (.iaload, 1) := by decide +kernel
theorem dL_law_823 : decode cL_law 823 = .ok (.invokevirtual 94, 3) := by decide +kernel
theorem dL_law_826 : decode cL_law 826 = .ok (.if_icmp .eq 605, 3) := by decide +kernel
theorem dL_law_829 : decode cL_law 829 = .ok (.iconst 0, 1) := by decide +kernel
theorem dL_law_830 : decode cL_law 830 = .ok (.ireturn, 1) := by decide +kernel
theorem dL_law_831 : decode cL_law 831 = .ok (.aload_n 1, 1) := by decide +kernel
theorem dL_law_832 : decode cL_law 832 = .ok (.aload_n 0, 1) := by decide +kernel
theorem dL_law_833 : decode cL_law 833 = .ok (.iload_n 3, 1) := by decide +kernel
theorem dL_law_834 : decode cL_law 834 = .ok (.iconst 1, 1) := by decide +kernel
theorem dL_law_835 : decode cL_law 835 = .ok (.iadd, 1) := by decide +kernel
theorem dL_law_836 : decode cL_law 836 = .ok (.iaload, 1) := by decide +kernel
theorem dL_law_837 : decode cL_law 837 = .ok (.aload_n 0, 1) := by decide +kernel
theorem dL_law_838 : decode cL_law 838 = .ok (.iload_n 3, 1) := by decide +kernel
theorem dL_law_839 : decode cL_law 839 = .ok (.iconst 2, 1) := by decide +kernel
theorem dL_law_840 : decode cL_law 840 = .ok (.iadd, 1) := by decide +kernel
theorem dL_law_841 : decode cL_law 841 = .ok (.iaload, 1) := by decide +kernel
theorem dL_law_842 : decode cL_law 842 = .ok (.aload_n 0, 1) := by decide +kernel
theorem dL_law_843 : decode cL_law 843 = .ok (.iload_n 3, 1) := by decide +kernel
theorem dL_law_844 : decode cL_law 844 = .ok (.iconst 3, 1) := by decide +kernel
theorem dL_law_845 : decode cL_law 845 = .ok (.iadd, 1) := by decide +kernel
theorem dL_law_846 : decode cL_law 846 = .ok (.iaload, 1) := by decide +kernel
theorem dL_law_847 : decode cL_law 847 = .ok (.invokevirtual 95, 3) := by decide +kernel
theorem dL_law_850 : decode cL_law 850 = .ok (.aload_n 2, 1) := by decide +kernel
theorem dL_law_851 : decode cL_law 851 = .ok (.aload_n 0, 1) := by decide +kernel
theorem dL_law_852 : decode cL_law 852 = .ok (.iload_n 3, 1) := by decide +kernel
theorem dL_law_853 : decode cL_law 853 = .ok (.iconst 1, 1) := by decide +kernel
theorem dL_law_854 : decode cL_law 854 = .ok (.iadd, 1) := by decide +kernel
theorem dL_law_855 : decode cL_law 855 = .ok (.iaload, 1) := by decide +kernel
theorem dL_law_856 : decode cL_law 856 = .ok (.aload_n 0, 1) := by decide +kernel
theorem dL_law_857 : decode cL_law 857 = .ok (.iload_n 3, 1) := by decide +kernel
theorem dL_law_858 : decode cL_law 858 = .ok (.iconst 2, 1) := by decide +kernel
theorem dL_law_859 : decode cL_law 859 = .ok (.iadd, 1) := by decide +kernel
theorem dL_law_860 : decode cL_law 860 = .ok (.iaload, 1) := by decide +kernel
theorem dL_law_861 : decode cL_law 861 = .ok (.aload_n 0, 1) := by decide +kernel
theorem dL_law_862 : decode cL_law 862 = .ok (.iload_n 3, 1) := by decide +kernel
theorem dL_law_863 : decode cL_law 863 = .ok (.iconst 3, 1) := by decide +kernel
theorem dL_law_864 : decode cL_law 864 = .ok (.iadd, 1) := by decide +kernel
theorem dL_law_865 : decode cL_law 865 = .ok (.iaload, 1) := by decide +kernel
theorem dL_law_866 : decode cL_law 866 = .ok (.invokevirtual 98, 3) := by decide +kernel
theorem dL_law_869 : decode cL_law 869 = .ok (.if_icmp .eq 562, 3) := by decide +kernel
theorem dL_law_872 : decode cL_law 872 = .ok (.iconst 0, 1) := by decide +kernel
theorem dL_law_873 : decode cL_law 873 = .ok (.ireturn, 1) := by decide +kernel
theorem dL_law_874 : decode cL_law 874 = .ok (.aload_n 1, 1) := by decide +kernel
theorem dL_law_875 : decode cL_law 875 = .ok (.aload_n 0, 1) := by decide +kernel
theorem dL_law_876 : decode cL_law 876 = .ok (.iload_n 3, 1) := by decide +kernel
theorem dL_law_877 : decode cL_law 877 = .ok (.iconst 1, 1) := by decide +kernel
theorem dL_law_878 : decode cL_law 878 = .ok (.iadd, 1) := by decide +kernel
theorem dL_law_879 : decode cL_law 879 = .ok (.iaload, 1) := by decide +kernel
theorem dL_law_880 : decode cL_law 880 = .ok (.invokevirtual 99, 3) := by decide +kernel
theorem dL_law_883 : decode cL_law 883 = .ok (.aload_n 2, 1) := by decide +kernel
theorem dL_law_884 : decode cL_law 884 = .ok (.aload_n 0, 1) := by decide +kernel
theorem dL_law_885 : decode cL_law 885 = .ok (.iload_n 3, 1) := by decide +kernel
theorem dL_law_886 : decode cL_law 886 = .ok (.iconst 1, 1) := by decide +kernel
theorem dL_law_887 : decode cL_law 887 = .ok (.iadd, 1) := by decide +kernel
theorem dL_law_888 : decode cL_law 888 = .ok (.iaload, 1) := by decide +kernel
theorem dL_law_889 : decode cL_law 889 = .ok (.invokevirtual 102, 3) := by decide +kernel
theorem dL_law_892 : decode cL_law 892 = .ok (.if_icmp .eq 539, 3) := by decide +kernel
theorem dL_law_895 : decode cL_law 895 = .ok (.iconst 0, 1) := by decide +kernel
theorem dL_law_896 : decode cL_law 896 = .ok (.ireturn, 1) := by decide +kernel
theorem dL_law_897 : decode cL_law 897 = .ok (.aload_n 1, 1) := by decide +kernel
theorem dL_law_898 : decode cL_law 898 = .ok (.aload_n 0, 1) := by decide +kernel
theorem dL_law_899 : decode cL_law 899 = .ok (.iload_n 3, 1) := by decide +kernel
theorem dL_law_900 : decode cL_law 900 = .ok (.iconst 1, 1) := by decide +kernel
theorem dL_law_901 : decode cL_law 901 = .ok (.iadd, 1) := by decide +kernel
theorem dL_law_902 : decode cL_law 902 = .ok (.iaload, 1) := by decide +kernel
theorem dL_law_903 : decode cL_law 903 = .ok (.aload_n 0, 1) := by decide +kernel
theorem dL_law_904 : decode cL_law 904 = .ok (.iload_n 3, 1) := by decide +kernel
theorem dL_law_905 : decode cL_law 905 = .ok (.iconst 2, 1) := by decide +kernel
theorem dL_law_906 : decode cL_law 906 = .ok (.iadd, 1) := by decide +kernel
theorem dL_law_907 : decode cL_law 907 = .ok (.iaload, 1) := by decide +kernel
theorem dL_law_908 : decode cL_law 908 = .ok (.invokevirtual 103, 3) := by decide +kernel
theorem dL_law_911 : decode cL_law 911 = .ok (.aload_n 2, 1) := by decide +kernel
theorem dL_law_912 : decode cL_law 912 = .ok (.aload_n 0, 1) := by decide +kernel
theorem dL_law_913 : decode cL_law 913 = .ok (.iload_n 3, 1) := by decide +kernel
theorem dL_law_914 : decode cL_law 914 = .ok (.iconst 1, 1) := by decide +kernel
theorem dL_law_915 : decode cL_law 915 = .ok (.iadd, 1) := by decide +kernel
theorem dL_law_916 : decode cL_law 916 = .ok (.iaload, 1) := by decide +kernel
theorem dL_law_917 : decode cL_law 917 = .ok (.aload_n 0, 1) := by decide +kernel
theorem dL_law_918 : decode cL_law 918 = .ok (.iload_n 3, 1) := by decide +kernel
theorem dL_law_919 : decode cL_law 919 = .ok (.iconst 2, 1) := by decide +kernel
theorem dL_law_920 : decode cL_law 920 = .ok (.iadd, 1) := by decide +kernel
theorem dL_law_921 : decode cL_law 921 = .ok (.iaload, 1) := by decide +kernel
theorem dL_law_922 : decode cL_law 922 = .ok (.invokevirtual 106, 3) := by decide +kernel
theorem dL_law_925 : decode cL_law 925 = .ok (.if_icmp .eq 506, 3) := by decide +kernel
theorem dL_law_928 : decode cL_law 928 = .ok (.iconst 0, 1) := by decide +kernel
theorem dL_law_929 : decode cL_law 929 = .ok (.ireturn, 1) := by decide +kernel
theorem dL_law_930 : decode cL_law 930 = .ok (.aload_n 1, 1) := by decide +kernel
theorem dL_law_931 : decode cL_law 931 = .ok (.aload_n 0, 1) := by decide +kernel
theorem dL_law_932 : decode cL_law 932 = .ok (.iload_n 3, 1) := by decide +kernel
theorem dL_law_933 : decode cL_law 933 = .ok (.iconst 1, 1) := by decide +kernel
theorem dL_law_934 : decode cL_law 934 = .ok (.iadd, 1) := by decide +kernel
theorem dL_law_935 : decode cL_law 935 = .ok (.iaload, 1) := by decide +kernel
theorem dL_law_936 : decode cL_law 936 = .ok (.aload_n 0, 1) := by decide +kernel
theorem dL_law_937 : decode cL_law 937 = .ok (.iload_n 3, 1) := by decide +kernel
theorem dL_law_938 : decode cL_law 938 = .ok (.iconst 2, 1) := by decide +kernel
theorem dL_law_939 : decode cL_law 939 = .ok (.iadd, 1) := by decide +kernel
theorem dL_law_940 : decode cL_law 940 = .ok (.iaload, 1) := by decide +kernel
theorem dL_law_941 : decode cL_law 941 = .ok (.invokevirtual 107, 3) := by decide +kernel
theorem dL_law_944 : decode cL_law 944 = .ok (.aload_n 2, 1) := by decide +kernel
theorem dL_law_945 : decode cL_law 945 = .ok (.aload_n 0, 1) := by decide +kernel
theorem dL_law_946 : decode cL_law 946 = .ok (.iload_n 3, 1) := by decide +kernel
theorem dL_law_947 : decode cL_law 947 = .ok (.iconst 1, 1) := by decide +kernel
theorem dL_law_948 : decode cL_law 948 = .ok (.iadd, 1) := by decide +kernel
theorem dL_law_949 : decode cL_law 949 = .ok (.iaload, 1) := by decide +kernel
theorem dL_law_950 : decode cL_law 950 = .ok (.aload_n 0, 1) := by decide +kernel
theorem dL_law_951 : decode cL_law 951 = .ok (.iload_n 3, 1) := by decide +kernel
theorem dL_law_952 : decode cL_law 952 = .ok (.iconst 2, 1) := by decide +kernel
theorem dL_law_953 : decode cL_law 953 = .ok (.iadd, 1) := by decide +kernel
theorem dL_law_954 : decode cL_law 954 = .ok (.iaload, 1) := by decide +kernel
theorem dL_law_955 : decode cL_law 955 = .ok (.invokevirtual 110, 3) := by decide +kernel
theorem dL_law_958 : decode cL_law 958 = .ok (.if_icmp .eq 473, 3) := by decide +kernel
theorem dL_law_961 : decode cL_law 961 = .ok (.iconst 0, 1) := by decide +kernel
theorem dL_law_962 : decode cL_law 962 = .ok (.ireturn, 1) := by decide +kernel
theorem dL_law_963 : decode cL_law 963 = .ok (.aload_n 1, 1) := by decide +kernel
theorem dL_law_964 : decode cL_law 964 = .ok (.aload_n 0, 1) := by decide +kernel
theorem dL_law_965 : decode cL_law 965 = .ok (.iload_n 3, 1) := by decide +kernel
theorem dL_law_966 : decode cL_law 966 = .ok (.iconst 1, 1) := by decide +kernel
theorem dL_law_967 : decode cL_law 967 = .ok (.iadd, 1) := by decide +kernel
theorem dL_law_968 : decode cL_law 968 = .ok (.iaload, 1) := by decide +kernel
theorem dL_law_969 : decode cL_law 969 = .ok (.aload_n 0, 1) := by decide +kernel
theorem dL_law_970 : decode cL_law 970 = .ok (.iload_n 3, 1) := by decide +kernel
theorem dL_law_971 : decode cL_law 971 = .ok (.iconst 2, 1) := by decide +kernel
theorem dL_law_972 : decode cL_law 972 = .ok (.iadd, 1) := by decide +kernel
theorem dL_law_973 : decode cL_law 973 = .ok (.iaload, 1) := by decide +kernel
theorem dL_law_974 : decode cL_law 974 = .ok (.invokevirtual 111, 3) := by decide +kernel
theorem dL_law_977 : decode cL_law 977 = .ok (.aload_n 2, 1) := by decide +kernel
theorem dL_law_978 : decode cL_law 978 = .ok (.aload_n 0, 1) := by decide +kernel
theorem dL_law_979 : decode cL_law 979 = .ok (.iload_n 3, 1) := by decide +kernel
theorem dL_law_980 : decode cL_law 980 = .ok (.iconst 1, 1) := by decide +kernel
theorem dL_law_981 : decode cL_law 981 = .ok (.iadd, 1) := by decide +kernel
theorem dL_law_982 : decode cL_law 982 = .ok (.iaload, 1) := by decide +kernel
theorem dL_law_983 : decode cL_law 983 = .ok (.aload_n 0, 1) := by decide +kernel
theorem dL_law_984 : decode cL_law 984 = .ok (.iload_n 3, 1) := by decide +kernel
theorem dL_law_985 : decode cL_law 985 = .ok (.iconst 2, 1) := by decide +kernel
theorem dL_law_986 : decode cL_law 986 = .ok (.iadd, 1) := by decide +kernel
theorem dL_law_987 : decode cL_law 987 = .ok (.iaload, 1) := by decide +kernel
theorem dL_law_988 : decode cL_law 988 = .ok (.invokevirtual 114, 3) := by decide +kernel
theorem dL_law_991 : decode cL_law 991 = .ok (.if_icmp .eq 440, 3) := by decide +kernel
theorem dL_law_994 : decode cL_law 994 = .ok (.iconst 0, 1) := by decide +kernel
theorem dL_law_995 : decode cL_law 995 = .ok (.ireturn, 1) := by decide +kernel
theorem dL_law_996 : decode cL_law 996 = .ok (.aload_n 1, 1) := by decide +kernel
theorem dL_law_997 : decode cL_law 997 = .ok (.aload_n 0, 1) := by decide +kernel
theorem dL_law_998 : decode cL_law 998 = .ok (.iload_n 3, 1) := by decide +kernel
theorem dL_law_999 : decode cL_law 999 = .ok (.iconst 1, 1) := by decide +kernel
theorem dL_law_1000 : decode cL_law 1000 = .ok (.iadd, 1) := by decide +kernel
theorem dL_law_1001 : decode cL_law 1001 = .ok (.iaload, 1) := by decide +kernel
theorem dL_law_1002 : decode cL_law 1002 = .ok (.aload_n 0, 1) := by decide +kernel
theorem dL_law_1003 : decode cL_law 1003 = .ok (.iload_n 3, 1) := by decide +kernel
theorem dL_law_1004 : decode cL_law 1004 = .ok (.iconst 2, 1) := by decide +kernel
theorem dL_law_1005 : decode cL_law 1005 = .ok (.iadd, 1) := by decide +kernel
theorem dL_law_1006 : decode cL_law 1006 = .ok (.iaload, 1) := by decide +kernel
theorem dL_law_1007 : decode cL_law 1007 = .ok (.invokevirtual 115, 3) := by decide +kernel
theorem dL_law_1010 : decode cL_law 1010 = .ok (.aload_n 2, 1) := by decide +kernel
theorem dL_law_1011 : decode cL_law 1011 = .ok (.aload_n 0, 1) := by decide +kernel
theorem dL_law_1012 : decode cL_law 1012 = .ok (.iload_n 3, 1) := by decide +kernel
theorem dL_law_1013 : decode cL_law 1013 = .ok (.iconst 1, 1) := by decide +kernel
theorem dL_law_1014 : decode cL_law 1014 = .ok (.iadd, 1) := by decide +kernel
theorem dL_law_1015 : decode cL_law 1015 = .ok (.iaload, 1) := by decide +kernel
theorem dL_law_1016 : decode cL_law 1016 = .ok (.aload_n 0, 1) := by decide +kernel
theorem dL_law_1017 : decode cL_law 1017 = .ok (.iload_n 3, 1) := by decide +kernel
theorem dL_law_1018 : decode cL_law 1018 = .ok (.iconst 2, 1) := by decide +kernel
theorem dL_law_1019 : decode cL_law 1019 = .ok (.iadd, 1) := by decide +kernel
theorem dL_law_1020 : decode cL_law 1020 = .ok (.iaload, 1) := by decide +kernel
theorem dL_law_1021 : decode cL_law 1021 = .ok (.invokevirtual 118, 3) := by decide +kernel
theorem dL_law_1024 : decode cL_law 1024 = .ok (.if_icmp .eq 407, 3) := by decide +kernel
theorem dL_law_1027 : decode cL_law 1027 = .ok (.iconst 0, 1) := by decide +kernel
theorem dL_law_1028 : decode cL_law 1028 = .ok (.ireturn, 1) := by decide +kernel
theorem dL_law_1029 : decode cL_law 1029 = .ok (.aload_n 1, 1) := by decide +kernel
theorem dL_law_1030 : decode cL_law 1030 = .ok (.aload_n 0, 1) := by decide +kernel
theorem dL_law_1031 : decode cL_law 1031 = .ok (.iload_n 3, 1) := by decide +kernel
theorem dL_law_1032 : decode cL_law 1032 = .ok (.iconst 1, 1) := by decide +kernel
theorem dL_law_1033 : decode cL_law 1033 = .ok (.iadd, 1) := by decide +kernel
theorem dL_law_1034 : decode cL_law 1034 = .ok (.iaload, 1) := by decide +kernel
theorem dL_law_1035 : decode cL_law 1035 = .ok (.invokevirtual 119, 3) := by decide +kernel
theorem dL_law_1038 : decode cL_law 1038 = .ok (.aload_n 2, 1) := by decide +kernel
theorem dL_law_1039 : decode cL_law 1039 = .ok (.aload_n 0, 1) := by decide +kernel
theorem dL_law_1040 : decode cL_law 1040 = .ok (.iload_n 3, 1) := by decide +kernel
theorem dL_law_1041 : decode cL_law 1041 = .ok (.iconst 1, 1) := by decide +kernel
theorem dL_law_1042 : decode cL_law 1042 = .ok (.iadd, 1) := by decide +kernel
theorem dL_law_1043 : decode cL_law 1043 = .ok (.iaload, 1) := by decide +kernel
theorem dL_law_1044 : decode cL_law 1044 = .ok (.invokevirtual 122, 3) := by decide +kernel
theorem dL_law_1047 : decode cL_law 1047 = .ok (.if_icmp .eq 384, 3) := by decide +kernel
theorem dL_law_1050 : decode cL_law 1050 = .ok (.iconst 0, 1) := by decide +kernel
theorem dL_law_1051 : decode cL_law 1051 = .ok (.ireturn, 1) := by decide +kernel
theorem dL_law_1052 : decode cL_law 1052 = .ok (.aload_n 1, 1) := by decide +kernel
theorem dL_law_1053 : decode cL_law 1053 = .ok (.aload_n 0, 1) := by decide +kernel
theorem dL_law_1054 : decode cL_law 1054 = .ok (.iload_n 3, 1) := by decide +kernel
theorem dL_law_1055 : decode cL_law 1055 = .ok (.iconst 1, 1) := by decide +kernel
theorem dL_law_1056 : decode cL_law 1056 = .ok (.iadd, 1) := by decide +kernel
theorem dL_law_1057 : decode cL_law 1057 = .ok (.iaload, 1) := by decide +kernel
theorem dL_law_1058 : decode cL_law 1058 = .ok (.aload_n 0, 1) := by decide +kernel
theorem dL_law_1059 : decode cL_law 1059 = .ok (.iload_n 3, 1) := by decide +kernel
theorem dL_law_1060 : decode cL_law 1060 = .ok (.iconst 2, 1) := by decide +kernel
theorem dL_law_1061 : decode cL_law 1061 = .ok (.iadd, 1) := by decide +kernel
theorem dL_law_1062 : decode cL_law 1062 = .ok (.iaload, 1) := by decide +kernel
theorem dL_law_1063 : decode cL_law 1063 = .ok (.aload_n 0, 1) := by decide +kernel
theorem dL_law_1064 : decode cL_law 1064 = .ok (.iload_n 3, 1) := by decide +kernel
theorem dL_law_1065 : decode cL_law 1065 = .ok (.iconst 3, 1) := by decide +kernel
theorem dL_law_1066 : decode cL_law 1066 = .ok (.iadd, 1) := by decide +kernel
theorem dL_law_1067 : decode cL_law 1067 = .ok (.iaload, 1) := by decide +kernel
theorem dL_law_1068 : decode cL_law 1068 = .ok (.invokevirtual 123, 3) := by decide +kernel
theorem dL_law_1071 : decode cL_law 1071 = .ok (.aload_n 2, 1) := by decide +kernel
theorem dL_law_1072 : decode cL_law 1072 = .ok (.aload_n 0, 1) := by decide +kernel
theorem dL_law_1073 : decode cL_law 1073 = .ok (.iload_n 3, 1) := by decide +kernel
theorem dL_law_1074 : decode cL_law 1074 = .ok (.iconst 1, 1) := by decide +kernel
theorem dL_law_1075 : decode cL_law 1075 = .ok (.iadd, 1) := by decide +kernel
theorem dL_law_1076 : decode cL_law 1076 = .ok (.iaload, 1) := by decide +kernel
theorem dL_law_1077 : decode cL_law 1077 = .ok (.aload_n 0, 1) := by decide +kernel
theorem dL_law_1078 : decode cL_law 1078 = .ok (.iload_n 3, 1) := by decide +kernel
theorem dL_law_1079 : decode cL_law 1079 = .ok (.iconst 2, 1) := by decide +kernel
theorem dL_law_1080 : decode cL_law 1080 = .ok (.iadd, 1) := by decide +kernel
theorem dL_law_1081 : decode cL_law 1081 = .ok (.iaload, 1) := by decide +kernel
theorem dL_law_1082 : decode cL_law 1082 = .ok (.aload_n 0, 1) := by decide +kernel
theorem dL_law_1083 : decode cL_law 1083 = .ok (.iload_n 3, 1) := by decide +kernel
theorem dL_law_1084 : decode cL_law 1084 = .ok (.iconst 3, 1) := by decide +kernel
theorem dL_law_1085 : decode cL_law 1085 = .ok (.iadd, 1) := by decide +kernel
theorem dL_law_1086 : decode cL_law 1086 = .ok (.iaload, 1) := by decide +kernel
theorem dL_law_1087 : decode cL_law 1087 = .ok (.invokevirtual 126, 3) := by decide +kernel
theorem dL_law_1090 : decode cL_law 1090 = .ok (.if_icmp .eq 341, 3) := by decide +kernel
theorem dL_law_1093 : decode cL_law 1093 = .ok (.iconst 0, 1) := by decide +kernel
theorem dL_law_1094 : decode cL_law 1094 = .ok (.ireturn, 1) := by decide +kernel
theorem dL_law_1095 : decode cL_law 1095 = .ok (.aload_n 1, 1) := by decide +kernel
theorem dL_law_1096 : decode cL_law 1096 = .ok (.aload_n 0, 1) := by decide +kernel
theorem dL_law_1097 : decode cL_law 1097 = .ok (.iload_n 3, 1) := by decide +kernel
theorem dL_law_1098 : decode cL_law 1098 = .ok (.iconst 1, 1) := by decide +kernel
theorem dL_law_1099 : decode cL_law 1099 = .ok (.iadd, 1) := by decide +kernel
theorem dL_law_1100 : decode cL_law 1100 = .ok (.iaload, 1) := by decide +kernel
theorem dL_law_1101 : decode cL_law 1101 = .ok (.invokevirtual 127, 3) := by decide +kernel
theorem dL_law_1104 : decode cL_law 1104 = .ok (.aload_n 2, 1) := by decide +kernel
theorem dL_law_1105 : decode cL_law 1105 = .ok (.aload_n 0, 1) := by decide +kernel
theorem dL_law_1106 : decode cL_law 1106 = .ok (.iload_n 3, 1) := by decide +kernel
theorem dL_law_1107 : decode cL_law 1107 = .ok (.iconst 1, 1) := by decide +kernel
theorem dL_law_1108 : decode cL_law 1108 = .ok (.iadd, 1) := by decide +kernel
theorem dL_law_1109 : decode cL_law 1109 = .ok (.iaload, 1) := by decide +kernel
theorem dL_law_1110 : decode cL_law 1110 = .ok (.invokevirtual 130, 3) := by decide +kernel
theorem dL_law_1113 : decode cL_law 1113 = .ok (.if_icmp .eq 318, 3) := by decide +kernel
theorem dL_law_1116 : decode cL_law 1116 = .ok (.iconst 0, 1) := by decide +kernel
theorem dL_law_1117 : decode cL_law 1117 = .ok (.ireturn, 1) := by decide +kernel
theorem dL_law_1118 : decode cL_law 1118 = .ok (.aload_n 1, 1) := by decide +kernel
theorem dL_law_1119 : decode cL_law 1119 = .ok (.aload_n 0, 1) := by decide +kernel
theorem dL_law_1120 : decode cL_law 1120 = .ok (.iload_n 3, 1) := by decide +kernel
theorem dL_law_1121 : decode cL_law 1121 = .ok (.iconst 1, 1) := by decide +kernel
theorem dL_law_1122 : decode cL_law 1122 = .ok (.iadd, 1) := by decide +kernel
theorem dL_law_1123 : decode cL_law 1123 = .ok (.iaload, 1) := by decide +kernel
theorem dL_law_1124 : decode cL_law 1124 = .ok (.aload_n 0, 1) := by decide +kernel
theorem dL_law_1125 : decode cL_law 1125 = .ok (.iload_n 3, 1) := by decide +kernel
theorem dL_law_1126 : decode cL_law 1126 = .ok (.iconst 2, 1) := by decide +kernel
theorem dL_law_1127 : decode cL_law 1127 = .ok (.iadd, 1) := by decide +kernel
theorem dL_law_1128 : decode cL_law 1128 = .ok (.iaload, 1) := by decide +kernel
theorem dL_law_1129 : decode cL_law 1129 = .ok (.aload_n 0, 1) := by decide +kernel
theorem dL_law_1130 : decode cL_law 1130 = .ok (.iload_n 3, 1) := by decide +kernel
theorem dL_law_1131 : decode cL_law 1131 = .ok (.iconst 3, 1) := by decide +kernel
theorem dL_law_1132 : decode cL_law 1132 = .ok (.iadd, 1) := by decide +kernel
theorem dL_law_1133 : decode cL_law 1133 = .ok (.iaload, 1) := by decide +kernel
theorem dL_law_1134 : decode cL_law 1134 = .ok (.invokevirtual 131, 3) := by decide +kernel
theorem dL_law_1137 : decode cL_law 1137 = .ok (.aload_n 2, 1) := by decide +kernel
theorem dL_law_1138 : decode cL_law 1138 = .ok (.aload_n 0, 1) := by decide +kernel
theorem dL_law_1139 : decode cL_law 1139 = .ok (.iload_n 3, 1) := by decide +kernel
theorem dL_law_1140 : decode cL_law 1140 = .ok (.iconst 1, 1) := by decide +kernel
theorem dL_law_1141 : decode cL_law 1141 = .ok (.iadd, 1) := by decide +kernel
theorem dL_law_1142 : decode cL_law 1142 = .ok (.iaload, 1) := by decide +kernel
theorem dL_law_1143 : decode cL_law 1143 = .ok (.aload_n 0, 1) := by decide +kernel
theorem dL_law_1144 : decode cL_law 1144 = .ok (.iload_n 3, 1) := by decide +kernel
theorem dL_law_1145 : decode cL_law 1145 = .ok (.iconst 2, 1) := by decide +kernel
theorem dL_law_1146 : decode cL_law 1146 = .ok (.iadd, 1) := by decide +kernel
theorem dL_law_1147 : decode cL_law 1147 = .ok (.iaload, 1) := by decide +kernel
theorem dL_law_1148 : decode cL_law 1148 = .ok (.aload_n 0, 1) := by decide +kernel
theorem dL_law_1149 : decode cL_law 1149 = .ok (.iload_n 3, 1) := by decide +kernel
theorem dL_law_1150 : decode cL_law 1150 = .ok (.iconst 3, 1) := by decide +kernel
theorem dL_law_1151 : decode cL_law 1151 = .ok (.iadd, 1) := by decide +kernel
theorem dL_law_1152 : decode cL_law 1152 = .ok (.iaload, 1) := by decide +kernel
theorem dL_law_1153 : decode cL_law 1153 = .ok (.invokevirtual 134, 3) := by decide +kernel
theorem dL_law_1156 : decode cL_law 1156 = .ok (.if_icmp .eq 275, 3) := by decide +kernel
theorem dL_law_1159 : decode cL_law 1159 = .ok (.iconst 0, 1) := by decide +kernel
theorem dL_law_1160 : decode cL_law 1160 = .ok (.ireturn, 1) := by decide +kernel
theorem dL_law_1161 : decode cL_law 1161 = .ok (.aload_n 1, 1) := by decide +kernel
theorem dL_law_1162 : decode cL_law 1162 = .ok (.aload_n 0, 1) := by decide +kernel
theorem dL_law_1163 : decode cL_law 1163 = .ok (.iload_n 3, 1) := by decide +kernel
theorem dL_law_1164 : decode cL_law 1164 = .ok (.iconst 1, 1) := by decide +kernel
theorem dL_law_1165 : decode cL_law 1165 = .ok (.iadd, 1) := by decide +kernel
theorem dL_law_1166 : decode cL_law 1166 = .ok (.iaload, 1) := by decide +kernel
theorem dL_law_1167 : decode cL_law 1167 = .ok (.aload_n 0, 1) := by decide +kernel
theorem dL_law_1168 : decode cL_law 1168 = .ok (.iload_n 3, 1) := by decide +kernel
theorem dL_law_1169 : decode cL_law 1169 = .ok (.iconst 2, 1) := by decide +kernel
theorem dL_law_1170 : decode cL_law 1170 = .ok (.iadd, 1) := by decide +kernel
theorem dL_law_1171 : decode cL_law 1171 = .ok (.iaload, 1) := by decide +kernel
theorem dL_law_1172 : decode cL_law 1172 = .ok (.aload_n 0, 1) := by decide +kernel
theorem dL_law_1173 : decode cL_law 1173 = .ok (.iload_n 3, 1) := by decide +kernel
theorem dL_law_1174 : decode cL_law 1174 = .ok (.iconst 3, 1) := by decide +kernel
theorem dL_law_1175 : decode cL_law 1175 = .ok (.iadd, 1) := by decide +kernel
theorem dL_law_1176 : decode cL_law 1176 = .ok (.iaload, 1) := by decide +kernel
theorem dL_law_1177 : decode cL_law 1177 = .ok (.invokevirtual 135, 3) := by decide +kernel
theorem dL_law_1180 : decode cL_law 1180 = .ok (.aload_n 2, 1) := by decide +kernel
theorem dL_law_1181 : decode cL_law 1181 = .ok (.aload_n 0, 1) := by decide +kernel
theorem dL_law_1182 : decode cL_law 1182 = .ok (.iload_n 3, 1) := by decide +kernel
theorem dL_law_1183 : decode cL_law 1183 = .ok (.iconst 1, 1) := by decide +kernel
theorem dL_law_1184 : decode cL_law 1184 = .ok (.iadd, 1) := by decide +kernel
theorem dL_law_1185 : decode cL_law 1185 = .ok (.iaload, 1) := by decide +kernel
theorem dL_law_1186 : decode cL_law 1186 = .ok (.aload_n 0, 1) := by decide +kernel
theorem dL_law_1187 : decode cL_law 1187 = .ok (.iload_n 3, 1) := by decide +kernel
theorem dL_law_1188 : decode cL_law 1188 = .ok (.iconst 2, 1) := by decide +kernel
theorem dL_law_1189 : decode cL_law 1189 = .ok (.iadd, 1) := by decide +kernel
theorem dL_law_1190 : decode cL_law 1190 = .ok (.iaload, 1) := by decide +kernel
theorem dL_law_1191 : decode cL_law 1191 = .ok (.aload_n 0, 1) := by decide +kernel
theorem dL_law_1192 : decode cL_law 1192 = .ok (.iload_n 3, 1) := by decide +kernel
theorem dL_law_1193 : decode cL_law 1193 = .ok (.iconst 3, 1) := by decide +kernel
theorem dL_law_1194 : decode cL_law 1194 = .ok (.iadd, 1) := by decide +kernel
theorem dL_law_1195 : decode cL_law 1195 = .ok (.iaload, 1) := by decide +kernel
theorem dL_law_1196 : decode cL_law 1196 = .ok (.invokevirtual 138, 3) := by decide +kernel
theorem dL_law_1199 : decode cL_law 1199 = .ok (.if_icmp .eq 232, 3) := by decide +kernel
theorem dL_law_1202 : decode cL_law 1202 = .ok (.iconst 0, 1) := by decide +kernel
theorem dL_law_1203 : decode cL_law 1203 = .ok (.ireturn, 1) := by decide +kernel
theorem dL_law_1204 : decode cL_law 1204 = .ok (.aload_n 1, 1) := by decide +kernel
theorem dL_law_1205 : decode cL_law 1205 = .ok (.aload_n 0, 1) := by decide +kernel
theorem dL_law_1206 : decode cL_law 1206 = .ok (.iload_n 3, 1) := by decide +kernel
theorem dL_law_1207 : decode cL_law 1207 = .ok (.iconst 1, 1) := by decide +kernel
theorem dL_law_1208 : decode cL_law 1208 = .ok (.iadd, 1) := by decide +kernel
theorem dL_law_1209 : decode cL_law 1209 = .ok (.iaload, 1) := by decide +kernel
theorem dL_law_1210 : decode cL_law 1210 = .ok (.aload_n 0, 1) := by decide +kernel
theorem dL_law_1211 : decode cL_law 1211 = .ok (.iload_n 3, 1) := by decide +kernel
theorem dL_law_1212 : decode cL_law 1212 = .ok (.iconst 2, 1) := by decide +kernel
theorem dL_law_1213 : decode cL_law 1213 = .ok (.iadd, 1) := by decide +kernel
theorem dL_law_1214 : decode cL_law 1214 = .ok (.iaload, 1) := by decide +kernel
theorem dL_law_1215 : decode cL_law 1215 = .ok (.aload_n 0, 1) := by decide +kernel
theorem dL_law_1216 : decode cL_law 1216 = .ok (.iload_n 3, 1) := by decide +kernel
theorem dL_law_1217 : decode cL_law 1217 = .ok (.iconst 3, 1) := by decide +kernel
theorem dL_law_1218 : decode cL_law 1218 = .ok (.iadd, 1) := by decide +kernel
theorem dL_law_1219 : decode cL_law 1219 = .ok (.iaload, 1) := by decide +kernel
theorem dL_law_1220 : decode cL_law 1220 = .ok (.aload_n 0, 1) := by decide +kernel
theorem dL_law_1221 : decode cL_law 1221 = .ok (.iload_n 3, 1) := by decide +kernel
theorem dL_law_1222 : decode cL_law 1222 = .ok (.iconst 4, 1) := by decide +kernel
theorem dL_law_1223 : decode cL_law 1223 = .ok (.iadd, 1) := by decide +kernel
theorem dL_law_1224 : decode cL_law 1224 = .ok (.iaload, 1) := by decide +kernel
theorem dL_law_1225 : decode cL_law 1225 = .ok (.aload_n 0, 1) := by decide +kernel
theorem dL_law_1226 : decode cL_law 1226 = .ok (.iload_n 3, 1) := by decide +kernel
theorem dL_law_1227 : decode cL_law 1227 = .ok (.iconst 5, 1) := by decide +kernel
theorem dL_law_1228 : decode cL_law 1228 = .ok (.iadd, 1) := by decide +kernel
theorem dL_law_1229 : decode cL_law 1229 = .ok (.iaload, 1) := by decide +kernel
theorem dL_law_1230 : decode cL_law 1230 = .ok (.invokevirtual 139, 3) := by decide +kernel
theorem dL_law_1233 : decode cL_law 1233 = .ok (.aload_n 2, 1) := by decide +kernel
theorem dL_law_1234 : decode cL_law 1234 = .ok (.aload_n 0, 1) := by decide +kernel
theorem dL_law_1235 : decode cL_law 1235 = .ok (.iload_n 3, 1) := by decide +kernel
theorem dL_law_1236 : decode cL_law 1236 = .ok (.iconst 1, 1) := by decide +kernel
theorem dL_law_1237 : decode cL_law 1237 = .ok (.iadd, 1) := by decide +kernel
theorem dL_law_1238 : decode cL_law 1238 = .ok (.iaload, 1) := by decide +kernel
theorem dL_law_1239 : decode cL_law 1239 = .ok (.aload_n 0, 1) := by decide +kernel
theorem dL_law_1240 : decode cL_law 1240 = .ok (.iload_n 3, 1) := by decide +kernel
theorem dL_law_1241 : decode cL_law 1241 = .ok (.iconst 2, 1) := by decide +kernel
theorem dL_law_1242 : decode cL_law 1242 = .ok (.iadd, 1) := by decide +kernel
theorem dL_law_1243 : decode cL_law 1243 = .ok (.iaload, 1) := by decide +kernel
theorem dL_law_1244 : decode cL_law 1244 = .ok (.aload_n 0, 1) := by decide +kernel
theorem dL_law_1245 : decode cL_law 1245 = .ok (.iload_n 3, 1) := by decide +kernel
theorem dL_law_1246 : decode cL_law 1246 = .ok (.iconst 3, 1) := by decide +kernel
theorem dL_law_1247 : decode cL_law 1247 = .ok (.iadd, 1) := by decide +kernel
theorem dL_law_1248 : decode cL_law 1248 = .ok (.iaload, 1) := by decide +kernel
theorem dL_law_1249 : decode cL_law 1249 = .ok (.aload_n 0, 1) := by decide +kernel
theorem dL_law_1250 : decode cL_law 1250 = .ok (.iload_n 3, 1) := by decide +kernel
theorem dL_law_1251 : decode cL_law 1251 = .ok (.iconst 4, 1) := by decide +kernel
theorem dL_law_1252 : decode cL_law 1252 = .ok (.iadd, 1) := by decide +kernel
theorem dL_law_1253 : decode cL_law 1253 = .ok (.iaload, 1) := by decide +kernel
theorem dL_law_1254 : decode cL_law 1254 = .ok (.aload_n 0, 1) := by decide +kernel
theorem dL_law_1255 : decode cL_law 1255 = .ok (.iload_n 3, 1) := by decide +kernel
theorem dL_law_1256 : decode cL_law 1256 = .ok (.iconst 5, 1) := by decide +kernel
theorem dL_law_1257 : decode cL_law 1257 = .ok (.iadd, 1) := by decide +kernel
theorem dL_law_1258 : decode cL_law 1258 = .ok (.iaload, 1) := by decide +kernel
theorem dL_law_1259 : decode cL_law 1259 = .ok (.invokevirtual 143, 3) := by decide +kernel
theorem dL_law_1262 : decode cL_law 1262 = .ok (.if_icmp .eq 169, 3) := by decide +kernel
theorem dL_law_1265 : decode cL_law 1265 = .ok (.iconst 0, 1) := by decide +kernel
theorem dL_law_1266 : decode cL_law 1266 = .ok (.ireturn, 1) := by decide +kernel
theorem dL_law_1267 : decode cL_law 1267 = .ok (.aload_n 1, 1) := by decide +kernel
theorem dL_law_1268 : decode cL_law 1268 = .ok (.aload_n 0, 1) := by decide +kernel
theorem dL_law_1269 : decode cL_law 1269 = .ok (.iload_n 3, 1) := by decide +kernel
theorem dL_law_1270 : decode cL_law 1270 = .ok (.iconst 1, 1) := by decide +kernel
theorem dL_law_1271 : decode cL_law 1271 = .ok (.iadd, 1) := by decide +kernel
theorem dL_law_1272 : decode cL_law 1272 = .ok (.iaload, 1) := by decide +kernel
theorem dL_law_1273 : decode cL_law 1273 = .ok (.invokevirtual 144, 3) := by decide +kernel
theorem dL_law_1276 : decode cL_law 1276 = .ok (.aload_n 2, 1) := by decide +kernel
theorem dL_law_1277 : decode cL_law 1277 = .ok (.aload_n 0, 1) := by decide +kernel
theorem dL_law_1278 : decode cL_law 1278 = .ok (.iload_n 3, 1) := by decide +kernel
theorem dL_law_1279 : decode cL_law 1279 = .ok (.iconst 1, 1) := by decide +kernel
theorem dL_law_1280 : decode cL_law 1280 = .ok (.iadd, 1) := by decide +kernel
theorem dL_law_1281 : decode cL_law 1281 = .ok (.iaload, 1) := by decide +kernel
theorem dL_law_1282 : decode cL_law 1282 = .ok (.invokevirtual 147, 3) := by decide +kernel
theorem dL_law_1285 : decode cL_law 1285 = .ok (.if_icmp .eq 146, 3) := by decide +kernel
theorem dL_law_1288 : decode cL_law 1288 = .ok (.iconst 0, 1) := by decide +kernel
theorem dL_law_1289 : decode cL_law 1289 = .ok (.ireturn, 1) := by decide +kernel
theorem dL_law_1290 : decode cL_law 1290 = .ok (.aload_n 1, 1) := by decide +kernel
theorem dL_law_1291 : decode cL_law 1291 = .ok (.aload_n 0, 1) := by decide +kernel
theorem dL_law_1292 : decode cL_law 1292 = .ok (.iload_n 3, 1) := by decide +kernel
theorem dL_law_1293 : decode cL_law 1293 = .ok (.iconst 1, 1) := by decide +kernel
theorem dL_law_1294 : decode cL_law 1294 = .ok (.iadd, 1) := by decide +kernel
theorem dL_law_1295 : decode cL_law 1295 = .ok (.iaload, 1) := by decide +kernel
theorem dL_law_1296 : decode cL_law 1296 = .ok (.invokevirtual 148, 3) := by decide +kernel
theorem dL_law_1299 : decode cL_law 1299 = .ok (.aload_n 2, 1) := by decide +kernel
theorem dL_law_1300 : decode cL_law 1300 = .ok (.aload_n 0, 1) := by decide +kernel
theorem dL_law_1301 : decode cL_law 1301 = .ok (.iload_n 3, 1) := by decide +kernel
theorem dL_law_1302 : decode cL_law 1302 = .ok (.iconst 1, 1) := by decide +kernel
theorem dL_law_1303 : decode cL_law 1303 = .ok (.iadd, 1) := by decide +kernel
theorem dL_law_1304 : decode cL_law 1304 = .ok (.iaload, 1) := by decide +kernel
theorem dL_law_1305 : decode cL_law 1305 = .ok (.invokevirtual 151, 3) := by decide +kernel
theorem dL_law_1308 : decode cL_law 1308 = .ok (.if_icmp .eq 123, 3) := by decide +kernel
theorem dL_law_1311 : decode cL_law 1311 = .ok (.iconst 0, 1) := by decide +kernel
theorem dL_law_1312 : decode cL_law 1312 = .ok (.ireturn, 1) := by decide +kernel
theorem dL_law_1313 : decode cL_law 1313 = .ok (.aload_n 1, 1) := by decide +kernel
theorem dL_law_1314 : decode cL_law 1314 = .ok (.invokevirtual 152, 3) := by decide +kernel
theorem dL_law_1317 : decode cL_law 1317 = .ok (.aload_n 2, 1) := by decide +kernel
theorem dL_law_1318 : decode cL_law 1318 = .ok (.invokevirtual 156, 3) := by decide +kernel
theorem dL_law_1321 : decode cL_law 1321 = .ok (.if_icmp .eq 110, 3) := by decide +kernel
theorem dL_law_1324 : decode cL_law 1324 = .ok (.iconst 0, 1) := by decide +kernel
theorem dL_law_1325 : decode cL_law 1325 = .ok (.ireturn, 1) := by decide +kernel
theorem dL_law_1326 : decode cL_law 1326 = .ok (.aload_n 1, 1) := by decide +kernel
theorem dL_law_1327 : decode cL_law 1327 = .ok (.invokevirtual 157, 3) := by decide +kernel
theorem dL_law_1330 : decode cL_law 1330 = .ok (.aload_n 2, 1) := by decide +kernel
theorem dL_law_1331 : decode cL_law 1331 = .ok (.invokevirtual 160, 3) := by decide +kernel
theorem dL_law_1334 : decode cL_law 1334 = .ok (.if_icmp .eq 97, 3) := by decide +kernel
theorem dL_law_1337 : decode cL_law 1337 = .ok (.iconst 0, 1) := by decide +kernel
theorem dL_law_1338 : decode cL_law 1338 = .ok (.ireturn, 1) := by decide +kernel
theorem dL_law_1339 : decode cL_law 1339 = .ok (.aload_n 1, 1) := by decide +kernel
theorem dL_law_1340 : decode cL_law 1340 = .ok (.aload_n 0, 1) := by decide +kernel
theorem dL_law_1341 : decode cL_law 1341 = .ok (.iload_n 3, 1) := by decide +kernel
theorem dL_law_1342 : decode cL_law 1342 = .ok (.iconst 1, 1) := by decide +kernel
theorem dL_law_1343 : decode cL_law 1343 = .ok (.iadd, 1) := by decide +kernel
theorem dL_law_1344 : decode cL_law 1344 = .ok (.iaload, 1) := by decide +kernel
theorem dL_law_1345 : decode cL_law 1345 = .ok (.invokevirtual 161, 3) := by decide +kernel
theorem dL_law_1348 : decode cL_law 1348 = .ok (.aload_n 2, 1) := by decide +kernel
theorem dL_law_1349 : decode cL_law 1349 = .ok (.aload_n 0, 1) := by decide +kernel
theorem dL_law_1350 : decode cL_law 1350 = .ok (.iload_n 3, 1) := by decide +kernel
theorem dL_law_1351 : decode cL_law 1351 = .ok (.iconst 1, 1) := by decide +kernel
theorem dL_law_1352 : decode cL_law 1352 = .ok (.iadd, 1) := by decide +kernel
theorem dL_law_1353 : decode cL_law 1353 = .ok (.iaload, 1) := by decide +kernel
theorem dL_law_1354 : decode cL_law 1354 = .ok (.invokevirtual 164, 3) := by decide +kernel
theorem dL_law_1357 : decode cL_law 1357 = .ok (.if_icmp .eq 74, 3) := by decide +kernel
theorem dL_law_1360 : decode cL_law 1360 = .ok (.iconst 0, 1) := by decide +kernel
theorem dL_law_1361 : decode cL_law 1361 = .ok (.ireturn, 1) := by decide +kernel
theorem dL_law_1362 : decode cL_law 1362 = .ok (.aload_n 1, 1) := by decide +kernel
theorem dL_law_1363 : decode cL_law 1363 = .ok (.aload_n 0, 1) := by decide +kernel
theorem dL_law_1364 : decode cL_law 1364 = .ok (.iload_n 3, 1) := by decide +kernel
theorem dL_law_1365 : decode cL_law 1365 = .ok (.iconst 1, 1) := by decide +kernel
theorem dL_law_1366 : decode cL_law 1366 = .ok (.iadd, 1) := by decide +kernel
theorem dL_law_1367 : decode cL_law 1367 = .ok (.iaload, 1) := by decide +kernel
theorem dL_law_1368 : decode cL_law 1368 = .ok (.invokevirtual 165, 3) := by decide +kernel
theorem dL_law_1371 : decode cL_law 1371 = .ok (.aload_n 2, 1) := by decide +kernel
theorem dL_law_1372 : decode cL_law 1372 = .ok (.aload_n 0, 1) := by decide +kernel
theorem dL_law_1373 : decode cL_law 1373 = .ok (.iload_n 3, 1) := by decide +kernel
theorem dL_law_1374 : decode cL_law 1374 = .ok (.iconst 1, 1) := by decide +kernel
theorem dL_law_1375 : decode cL_law 1375 = .ok (.iadd, 1) := by decide +kernel
theorem dL_law_1376 : decode cL_law 1376 = .ok (.iaload, 1) := by decide +kernel
theorem dL_law_1377 : decode cL_law 1377 = .ok (.invokevirtual 168, 3) := by decide +kernel
theorem dL_law_1380 : decode cL_law 1380 = .ok (.if_icmp .eq 51, 3) := by decide +kernel
theorem dL_law_1383 : decode cL_law 1383 = .ok (.iconst 0, 1) := by decide +kernel
theorem dL_law_1384 : decode cL_law 1384 = .ok (.ireturn, 1) := by decide +kernel
theorem dL_law_1385 : decode cL_law 1385 = .ok (.aload_n 1, 1) := by decide +kernel
theorem dL_law_1386 : decode cL_law 1386 = .ok (.aload_n 0, 1) := by decide +kernel
theorem dL_law_1387 : decode cL_law 1387 = .ok (.iload_n 3, 1) := by decide +kernel
theorem dL_law_1388 : decode cL_law 1388 = .ok (.iconst 1, 1) := by decide +kernel
theorem dL_law_1389 : decode cL_law 1389 = .ok (.iadd, 1) := by decide +kernel
theorem dL_law_1390 : decode cL_law 1390 = .ok (.iaload, 1) := by decide +kernel
theorem dL_law_1391 : decode cL_law 1391 = .ok (.invokevirtual 169, 3) := by decide +kernel
theorem dL_law_1394 : decode cL_law 1394 = .ok (.aload_n 2, 1) := by decide +kernel
theorem dL_law_1395 : decode cL_law 1395 = .ok (.aload_n 0, 1) := by decide +kernel
theorem dL_law_1396 : decode cL_law 1396 = .ok (.iload_n 3, 1) := by decide +kernel
theorem dL_law_1397 : decode cL_law 1397 = .ok (.iconst 1, 1) := by decide +kernel
theorem dL_law_1398 : decode cL_law 1398 = .ok (.iadd, 1) := by decide +kernel
theorem dL_law_1399 : decode cL_law 1399 = .ok (.iaload, 1) := by decide +kernel
theorem dL_law_1400 : decode cL_law 1400 = .ok (.invokevirtual 172, 3) := by decide +kernel
theorem dL_law_1403 : decode cL_law 1403 = .ok (.if_icmp .eq 28, 3) := by decide +kernel
theorem dL_law_1406 : decode cL_law 1406 = .ok (.iconst 0, 1) := by decide +kernel
theorem dL_law_1407 : decode cL_law 1407 = .ok (.ireturn, 1) := by decide +kernel
theorem dL_law_1408 : decode cL_law 1408 = .ok (.aload_n 1, 1) := by decide +kernel
theorem dL_law_1409 : decode cL_law 1409 = .ok (.aload_n 0, 1) := by decide +kernel
theorem dL_law_1410 : decode cL_law 1410 = .ok (.iload_n 3, 1) := by decide +kernel
theorem dL_law_1411 : decode cL_law 1411 = .ok (.iconst 1, 1) := by decide +kernel
theorem dL_law_1412 : decode cL_law 1412 = .ok (.iadd, 1) := by decide +kernel
theorem dL_law_1413 : decode cL_law 1413 = .ok (.iaload, 1) := by decide +kernel
theorem dL_law_1414 : decode cL_law 1414 = .ok (.invokevirtual 173, 3) := by decide +kernel
theorem dL_law_1417 : decode cL_law 1417 = .ok (.aload_n 2, 1) := by decide +kernel
theorem dL_law_1418 : decode cL_law 1418 = .ok (.aload_n 0, 1) := by decide +kernel
theorem dL_law_1419 : decode cL_law 1419 = .ok (.iload_n 3, 1) := by decide +kernel
theorem dL_law_1420 : decode cL_law 1420 = .ok (.iconst 1, 1) := by decide +kernel
theorem dL_law_1421 : decode cL_law 1421 = .ok (.iadd, 1) := by decide +kernel
theorem dL_law_1422 : decode cL_law 1422 = .ok (.iaload, 1) := by decide +kernel
theorem dL_law_1423 : decode cL_law 1423 = .ok (.invokevirtual 176, 3) := by decide +kernel
theorem dL_law_1426 : decode cL_law 1426 = .ok (.if_icmp .eq 5, 3) := by decide +kernel
theorem dL_law_1429 : decode cL_law 1429 = .ok (.iconst 0, 1) := by decide +kernel
theorem dL_law_1430 : decode cL_law 1430 = .ok (.ireturn, 1) := by decide +kernel
theorem dL_law_1431 : decode cL_law 1431 = .ok (.iinc 3 6, 3) := by decide +kernel
theorem dL_law_1434 : decode cL_law 1434 = .ok (.goto (-1416), 3) := by decide +kernel
theorem dL_law_1437 : decode cL_law 1437 = .ok (.iconst 1, 1) := by decide +kernel
theorem dL_law_1438 : decode cL_law 1438 = .ok (.ireturn, 1) := by decide +kernel
