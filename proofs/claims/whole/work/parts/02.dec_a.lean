/-! decode rows -/
theorem dX0_init_0 : decode cX0_init 0 = .ok (.aload_n 0, 1) := by decide +kernel
theorem dX0_init_1 : decode cX0_init 1 = .ok (.invokespecial 3, 3) := by decide +kernel
theorem dX0_init_4 : decode cX0_init 4 = .ok (.aload_n 0, 1) := by decide +kernel
theorem dX0_init_5 : decode cX0_init 5 = .ok (.bipush 6, 2) := by decide +kernel
theorem dX0_init_7 : decode cX0_init 7 = .ok (.newarray .int, 2) := by decide +kernel
theorem dX0_init_9 : decode cX0_init 9 = .ok (.putfield 9, 3) := by decide +kernel
theorem dX0_init_12 : decode cX0_init 12 = .ok (.aload_n 0, 1) := by decide +kernel
theorem dX0_init_13 : decode cX0_init 13 = .ok (.bipush 6, 2) := by decide +kernel
theorem dX0_init_15 : decode cX0_init 15 = .ok (.newarray .int, 2) := by decide +kernel
theorem dX0_init_17 : decode cX0_init 17 = .ok (.putfield 15, 3) := by decide +kernel
theorem dX0_init_20 : decode cX0_init 20 = .ok (.return_, 1) := by decide +kernel
theorem dX0_copyFrom_0 : decode cX0_copyFrom 0 = .ok (.aload_n 0, 1) := by decide +kernel
theorem dX0_copyFrom_1 : decode cX0_copyFrom 1 = .ok (.aload_n 1, 1) := by decide +kernel
theorem dX0_copyFrom_2 : decode cX0_copyFrom 2 = .ok (.getfield 18, 3) := by decide +kernel
theorem dX0_copyFrom_5 : decode cX0_copyFrom 5 = .ok (.putfield 18, 3) := by decide +kernel
theorem dX0_copyFrom_8 : decode cX0_copyFrom 8 = .ok (.aload_n 0, 1) := by decide +kernel
theorem dX0_copyFrom_9 : decode cX0_copyFrom 9 = .ok (.aload_n 1, 1) := by decide +kernel
theorem dX0_copyFrom_10 : decode cX0_copyFrom 10 = .ok (.getfield 22, 3) := by decide +kernel
theorem dX0_copyFrom_13 : decode cX0_copyFrom 13 = .ok (.putfield 22, 3) := by decide +kernel
theorem dX0_copyFrom_16 : decode cX0_copyFrom 16 = .ok (.aload_n 0, 1) := by decide +kernel
theorem dX0_copyFrom_17 : decode cX0_copyFrom 17 = .ok (.aload_n 1, 1) := by decide +kernel
theorem dX0_copyFrom_18 : decode cX0_copyFrom 18 = .ok (.getfield 25, 3) := by decide +kernel
theorem dX0_copyFrom_21 : decode cX0_copyFrom 21 = .ok (.putfield 25, 3) := by decide +kernel
theorem dX0_copyFrom_24 : decode cX0_copyFrom 24 = .ok (.aload_n 0, 1) := by decide +kernel
theorem dX0_copyFrom_25 : decode cX0_copyFrom 25 = .ok (.aload_n 1, 1) := by decide +kernel
theorem dX0_copyFrom_26 : decode cX0_copyFrom 26 = .ok (.getfield 28, 3) := by decide +kernel
theorem dX0_copyFrom_29 : decode cX0_copyFrom 29 = .ok (.putfield 28, 3) := by decide +kernel
theorem dX0_copyFrom_32 : decode cX0_copyFrom 32 = .ok (.aload_n 0, 1) := by decide +kernel
theorem dX0_copyFrom_33 : decode cX0_copyFrom 33 = .ok (.aload_n 1, 1) := by decide +kernel
theorem dX0_copyFrom_34 : decode cX0_copyFrom 34 = .ok (.getfield 31, 3) := by decide +kernel
theorem dX0_copyFrom_37 : decode cX0_copyFrom 37 = .ok (.putfield 31, 3) := by decide +kernel
theorem dX0_copyFrom_40 : decode cX0_copyFrom 40 = .ok (.aload_n 1, 1) := by decide +kernel
theorem dX0_copyFrom_41 : decode cX0_copyFrom 41 = .ok (.getfield 9, 3) := by decide +kernel
theorem dX0_copyFrom_44 : decode cX0_copyFrom 44 = .ok (.iconst 0, 1) := by decide +kernel
theorem dX0_copyFrom_45 : decode cX0_copyFrom 45 = .ok (.aload_n 0, 1) := by decide +kernel
theorem dX0_copyFrom_46 : decode cX0_copyFrom 46 = .ok (.getfield 9, 3) := by decide +kernel
theorem dX0_copyFrom_49 : decode cX0_copyFrom 49 = .ok (.iconst 0, 1) := by decide +kernel
theorem dX0_copyFrom_50 : decode cX0_copyFrom 50 = .ok (.bipush 6, 2) := by decide +kernel
theorem dX0_copyFrom_52 : decode cX0_copyFrom 52 = .ok (.invokestatic 34, 3) := by decide +kernel
theorem dX0_copyFrom_55 : decode cX0_copyFrom 55 = .ok (.aload_n 1, 1) := by decide +kernel
theorem dX0_copyFrom_56 : decode cX0_copyFrom 56 = .ok (.getfield 15, 3) := by decide +kernel
theorem dX0_copyFrom_59 : decode cX0_copyFrom 59 = .ok (.iconst 0, 1) := by decide +kernel
theorem dX0_copyFrom_60 : decode cX0_copyFrom 60 = .ok (.aload_n 0, 1) := by decide +kernel
theorem dX0_copyFrom_61 : decode cX0_copyFrom 61 = .ok (.getfield 15, 3) := by decide +kernel
theorem dX0_copyFrom_64 : decode cX0_copyFrom 64 = .ok (.iconst 0, 1) := by decide +kernel
theorem dX0_copyFrom_65 : decode cX0_copyFrom 65 = .ok (.bipush 6, 2) := by decide +kernel
theorem dX0_copyFrom_67 : decode cX0_copyFrom 67 = .ok (.invokestatic 34, 3) := by decide +kernel
theorem dX0_copyFrom_70 : decode cX0_copyFrom 70 = .ok (.return_, 1) := by decide +kernel
theorem dX0_settle_0 : decode cX0_settle 0 = .ok (.aload_n 0, 1) := by decide +kernel
theorem dX0_settle_1 : decode cX0_settle 1 = .ok (.iload_n 1, 1) := by decide +kernel
theorem dX0_settle_2 : decode cX0_settle 2 = .ok (.bipush 10, 2) := by decide +kernel
theorem dX0_settle_4 : decode cX0_settle 4 = .ok (.idiv, 1) := by decide +kernel
theorem dX0_settle_5 : decode cX0_settle 5 = .ok (.putfield 18, 3) := by decide +kernel
theorem dX0_settle_8 : decode cX0_settle 8 = .ok (.aload_n 0, 1) := by decide +kernel
theorem dX0_settle_9 : decode cX0_settle 9 = .ok (.iload_n 1, 1) := by decide +kernel
theorem dX0_settle_10 : decode cX0_settle 10 = .ok (.bipush 10, 2) := by decide +kernel
theorem dX0_settle_12 : decode cX0_settle 12 = .ok (.irem, 1) := by decide +kernel
theorem dX0_settle_13 : decode cX0_settle 13 = .ok (.putfield 22, 3) := by decide +kernel
theorem dX0_settle_16 : decode cX0_settle 16 = .ok (.aload_n 0, 1) := by decide +kernel
theorem dX0_settle_17 : decode cX0_settle 17 = .ok (.iload_n 2, 1) := by decide +kernel
theorem dX0_settle_18 : decode cX0_settle 18 = .ok (.putfield 25, 3) := by decide +kernel
theorem dX0_settle_21 : decode cX0_settle 21 = .ok (.iconst 0, 1) := by decide +kernel
theorem dX0_settle_22 : decode cX0_settle 22 = .ok (.istore_n 3, 1) := by decide +kernel
theorem dX0_settle_23 : decode cX0_settle 23 = .ok (.iload_n 3, 1) := by decide +kernel
theorem dX0_settle_24 : decode cX0_settle 24 = .ok (.bipush 6, 2) := by decide +kernel
theorem dX0_settle_26 : decode cX0_settle 26 = .ok (.if_icmp .ge 14, 3) := by decide +kernel
theorem dX0_settle_29 : decode cX0_settle 29 = .ok (.aload_n 0, 1) := by decide +kernel
theorem dX0_settle_30 : decode cX0_settle 30 = .ok (.iload_n 3, 1) := by decide +kernel
theorem dX0_settle_31 : decode cX0_settle 31 = .ok (.invokevirtual 40, 3) := by decide +kernel
theorem dX0_settle_34 : decode cX0_settle 34 = .ok (.iinc 3 1, 3) := by decide +kernel
theorem dX0_settle_37 : decode cX0_settle 37 = .ok (.goto (-14), 3) := by decide +kernel
theorem dX0_settle_40 : decode cX0_settle 40 = .ok (.return_, 1) := by decide +kernel
theorem dX0_learnAll_0 : decode cX0_learnAll 0 = .ok (.iconst 0, 1) := by decide +kernel
theorem dX0_learnAll_1 : decode cX0_learnAll 1 = .ok (.istore_n 3, 1) := by decide +kernel
theorem dX0_learnAll_2 : decode cX0_learnAll 2 = .ok (.iload_n 3, 1) := by decide +kernel
theorem dX0_learnAll_3 : decode cX0_learnAll 3 = .ok (.bipush 6, 2) := by decide +kernel
theorem dX0_learnAll_5 : decode cX0_learnAll 5 = .ok (.if_icmp .ge 23, 3) := by decide +kernel
theorem dX0_learnAll_8 : decode cX0_learnAll 8 = .ok (.iload_n 1, 1) := by decide +kernel
theorem dX0_learnAll_9 : decode cX0_learnAll 9 = .ok (.iload_n 3, 1) := by decide +kernel
theorem dX0_learnAll_10 : decode cX0_learnAll 10 = .ok (.ishr, 1) := by decide +kernel
theorem dX0_learnAll_11 : decode cX0_learnAll 11 = .ok (.iconst 1, 1) := by decide +kernel
theorem dX0_learnAll_12 : decode cX0_learnAll 12 = .ok (.iand, 1) := by decide +kernel
theorem dX0_learnAll_13 : decode cX0_learnAll 13 = .ok (.ifCond .eq 9, 3) := by decide +kernel
theorem dX0_learnAll_16 : decode cX0_learnAll 16 = .ok (.aload_n 0, 1) := by decide +kernel
theorem dX0_learnAll_17 : decode cX0_learnAll 17 = .ok (.iload_n 3, 1) := by decide +kernel
theorem dX0_learnAll_18 : decode cX0_learnAll 18 = .ok (.iload_n 2, 1) := by decide +kernel
theorem dX0_learnAll_19 : decode cX0_learnAll 19 = .ok (.invokevirtual 44, 3) := by decide +kernel
theorem dX0_learnAll_22 : decode cX0_learnAll 22 = .ok (.iinc 3 1, 3) := by decide +kernel
theorem dX0_learnAll_25 : decode cX0_learnAll 25 = .ok (.goto (-23), 3) := by decide +kernel
theorem dX0_learnAll_28 : decode cX0_learnAll 28 = .ok (.return_, 1) := by decide +kernel
theorem dX0_learn_0 : decode cX0_learn 0 = .ok (.aload_n 0, 1) := by decide +kernel
theorem dX0_learn_1 : decode cX0_learn 1 = .ok (.dup, 1) := by decide +kernel
theorem dX0_learn_2 : decode cX0_learn 2 = .ok (.getfield 28, 3) := by decide +kernel
theorem dX0_learn_5 : decode cX0_learn 5 = .ok (.iconst 1, 1) := by decide +kernel
theorem dX0_learn_6 : decode cX0_learn 6 = .ok (.iload_n 1, 1) := by decide +kernel
theorem dX0_learn_7 : decode cX0_learn 7 = .ok (.ishl, 1) := by decide +kernel
theorem dX0_learn_8 : decode cX0_learn 8 = .ok (.ior, 1) := by decide +kernel
theorem dX0_learn_9 : decode cX0_learn 9 = .ok (.putfield 28, 3) := by decide +kernel
theorem dX0_learn_12 : decode cX0_learn 12 = .ok (.aload_n 0, 1) := by decide +kernel
theorem dX0_learn_13 : decode cX0_learn 13 = .ok (.getfield 9, 3) := by decide +kernel
theorem dX0_learn_16 : decode cX0_learn 16 = .ok (.iload_n 1, 1) := by decide +kernel
theorem dX0_learn_17 : decode cX0_learn 17 = .ok (.iload_n 2, 1) := by decide +kernel
theorem dX0_learn_18 : decode cX0_learn 18 = .ok (.iastore, 1) := by decide +kernel
theorem dX0_learn_19 : decode cX0_learn 19 = .ok (.return_, 1) := by decide +kernel
theorem dX0_forget_0 : decode cX0_forget 0 = .ok (.aload_n 0, 1) := by decide +kernel
theorem dX0_forget_1 : decode cX0_forget 1 = .ok (.dup, 1) := by decide +kernel
theorem dX0_forget_2 : decode cX0_forget 2 = .ok (.getfield 28, 3) := by decide +kernel
theorem dX0_forget_5 : decode cX0_forget 5 = .ok (.iconst 1, 1) := by decide +kernel
theorem dX0_forget_6 : decode cX0_forget 6 = .ok (.iload_n 1, 1) := by decide +kernel
theorem dX0_forget_7 : decode cX0_forget 7 = .ok (.ishl, 1) := by decide +kernel
theorem dX0_forget_8 : decode cX0_forget 8 = .ok (.iconst (-1), 1) := by decide +kernel
theorem dX0_forget_9 : decode cX0_forget 9 = .ok (.ixor, 1) := by decide +kernel
theorem dX0_forget_10 : decode cX0_forget 10 = .ok (.iand, 1) := by decide +kernel
theorem dX0_forget_11 : decode cX0_forget 11 = .ok (.putfield 28, 3) := by decide +kernel
theorem dX0_forget_14 : decode cX0_forget 14 = .ok (.aload_n 0, 1) := by decide +kernel
theorem dX0_forget_15 : decode cX0_forget 15 = .ok (.getfield 9, 3) := by decide +kernel
theorem dX0_forget_18 : decode cX0_forget 18 = .ok (.iload_n 1, 1) := by decide +kernel
theorem dX0_forget_19 : decode cX0_forget 19 = .ok (.iconst 0, 1) := by decide +kernel
theorem dX0_forget_20 : decode cX0_forget 20 = .ok (.iastore, 1) := by decide +kernel
theorem dX0_forget_21 : decode cX0_forget 21 = .ok (.aload_n 0, 1) := by decide +kernel
theorem dX0_forget_22 : decode cX0_forget 22 = .ok (.getfield 15, 3) := by decide +kernel
theorem dX0_forget_25 : decode cX0_forget 25 = .ok (.iload_n 1, 1) := by decide +kernel
theorem dX0_forget_26 : decode cX0_forget 26 = .ok (.iconst 0, 1) := by decide +kernel
theorem dX0_forget_27 : decode cX0_forget 27 = .ok (.iastore, 1) := by decide +kernel
theorem dX0_forget_28 : decode cX0_forget 28 = .ok (.return_, 1) := by decide +kernel
theorem dX0_knows_0 : decode cX0_knows 0 = .ok (.iload_n 1, 1) := by decide +kernel
theorem dX0_knows_1 : decode cX0_knows 1 = .ok (.invokestatic 48, 3) := by decide +kernel
theorem dX0_knows_4 : decode cX0_knows 4 = .ok (.ifCond .eq 18, 3) := by decide +kernel
theorem dX0_knows_7 : decode cX0_knows 7 = .ok (.aload_n 0, 1) := by decide +kernel
theorem dX0_knows_8 : decode cX0_knows 8 = .ok (.getfield 28, 3) := by decide +kernel
theorem dX0_knows_11 : decode cX0_knows 11 = .ok (.iload_n 1, 1) := by decide +kernel
theorem dX0_knows_12 : decode cX0_knows 12 = .ok (.ishr, 1) := by decide +kernel
theorem dX0_knows_13 : decode cX0_knows 13 = .ok (.iconst 1, 1) := by decide +kernel
theorem dX0_knows_14 : decode cX0_knows 14 = .ok (.iand, 1) := by decide +kernel
theorem dX0_knows_15 : decode cX0_knows 15 = .ok (.ifCond .eq 7, 3) := by decide +kernel
theorem dX0_knows_18 : decode cX0_knows 18 = .ok (.iconst 1, 1) := by decide +kernel
theorem dX0_knows_19 : decode cX0_knows 19 = .ok (.goto 4, 3) := by decide +kernel
theorem dX0_knows_22 : decode cX0_knows 22 = .ok (.iconst 0, 1) := by decide +kernel
theorem dX0_knows_23 : decode cX0_knows 23 = .ok (.ireturn, 1) := by decide +kernel
theorem dX0_isOf_0 : decode cX0_isOf 0 = .ok (.aload_n 0, 1) := by decide +kernel
theorem dX0_isOf_1 : decode cX0_isOf 1 = .ok (.getfield 18, 3) := by decide +kernel
theorem dX0_isOf_4 : decode cX0_isOf 4 = .ok (.istore_n 2, 1) := by decide +kernel
theorem dX0_isOf_5 : decode cX0_isOf 5 = .ok (.iconst 0, 1) := by decide +kernel
theorem dX0_isOf_6 : decode cX0_isOf 6 = .ok (.istore_n 3, 1) := by decide +kernel
theorem dX0_isOf_7 : decode cX0_isOf 7 = .ok (.iload_n 3, 1) := by decide +kernel
theorem dX0_isOf_8 : decode cX0_isOf 8 = .ok (.bipush 7, 2) := by decide +kernel
theorem dX0_isOf_10 : decode cX0_isOf 10 = .ok (.if_icmp .ge 24, 3) := by decide +kernel
theorem dX0_isOf_13 : decode cX0_isOf 13 = .ok (.iload_n 2, 1) := by decide +kernel
theorem dX0_isOf_14 : decode cX0_isOf 14 = .ok (.ifCond .lt 20, 3) := by decide +kernel
theorem dX0_isOf_17 : decode cX0_isOf 17 = .ok (.iload_n 2, 1) := by decide +kernel
theorem dX0_isOf_18 : decode cX0_isOf 18 = .ok (.iload_n 1, 1) := by decide +kernel
theorem dX0_isOf_19 : decode cX0_isOf 19 = .ok (.if_icmp .eq 15, 3) := by decide +kernel
theorem dX0_isOf_22 : decode cX0_isOf 22 = .ok (.getstatic 52, 3) := by decide +kernel
theorem dX0_isOf_25 : decode cX0_isOf 25 = .ok (.iload_n 2, 1) := by decide +kernel
theorem dX0_isOf_26 : decode cX0_isOf 26 = .ok (.iaload, 1) := by decide +kernel
theorem dX0_isOf_27 : decode cX0_isOf 27 = .ok (.istore_n 2, 1) := by decide +kernel
theorem dX0_isOf_28 : decode cX0_isOf 28 = .ok (.iinc 3 1, 3) := by decide +kernel
theorem dX0_isOf_31 : decode cX0_isOf 31 = .ok (.goto (-24), 3) := by decide +kernel
theorem dX0_isOf_34 : decode cX0_isOf 34 = .ok (.iload_n 2, 1) := by decide +kernel
theorem dX0_isOf_35 : decode cX0_isOf 35 = .ok (.iload_n 1, 1) := by decide +kernel
theorem dX0_isOf_36 : decode cX0_isOf 36 = .ok (.if_icmp .ne 7, 3) := by decide +kernel
theorem dX0_isOf_39 : decode cX0_isOf 39 = .ok (.iconst 1, 1) := by decide +kernel
theorem dX0_isOf_40 : decode cX0_isOf 40 = .ok (.goto 4, 3) := by decide +kernel
theorem dX0_isOf_43 : decode cX0_isOf 43 = .ok (.iconst 0, 1) := by decide +kernel
theorem dX0_isOf_44 : decode cX0_isOf 44 = .ok (.ireturn, 1) := by decide +kernel
theorem dX0_stays_0 : decode cX0_stays 0 = .ok (.aload_n 0, 1) := by decide +kernel
theorem dX0_stays_1 : decode cX0_stays 1 = .ok (.getfield 18, 3) := by decide +kernel
theorem dX0_stays_4 : decode cX0_stays 4 = .ok (.iconst 5, 1) := by decide +kernel
theorem dX0_stays_5 : decode cX0_stays 5 = .ok (.if_icmp .ne 18, 3) := by decide +kernel
theorem dX0_stays_8 : decode cX0_stays 8 = .ok (.iload_n 1, 1) := by decide +kernel
theorem dX0_stays_9 : decode cX0_stays 9 = .ok (.aload_n 0, 1) := by decide +kernel
theorem dX0_stays_10 : decode cX0_stays 10 = .ok (.getfield 22, 3) := by decide +kernel
theorem dX0_stays_13 : decode cX0_stays 13 = .ok (.iconst 2, 1) := by decide +kernel
theorem dX0_stays_14 : decode cX0_stays 14 = .ok (.iadd, 1) := by decide +kernel
theorem dX0_stays_15 : decode cX0_stays 15 = .ok (.irem, 1) := by decide +kernel
theorem dX0_stays_16 : decode cX0_stays 16 = .ok (.ifCond .ne 7, 3) := by decide +kernel
theorem dX0_stays_19 : decode cX0_stays 19 = .ok (.iconst 1, 1) := by decide +kernel
theorem dX0_stays_20 : decode cX0_stays 20 = .ok (.goto 4, 3) := by decide +kernel
theorem dX0_stays_23 : decode cX0_stays 23 = .ok (.iconst 0, 1) := by decide +kernel
theorem dX0_stays_24 : decode cX0_stays 24 = .ok (.ireturn, 1) := by decide +kernel
theorem dX0_tellsOf_0 : decode cX0_tellsOf 0 = .ok (.aload_n 0, 1) := by decide +kernel
theorem dX0_tellsOf_1 : decode cX0_tellsOf 1 = .ok (.getfield 9, 3) := by decide +kernel
theorem dX0_tellsOf_4 : decode cX0_tellsOf 4 = .ok (.iload_n 1, 1) := by decide +kernel
theorem dX0_tellsOf_5 : decode cX0_tellsOf 5 = .ok (.iaload, 1) := by decide +kernel
theorem dX0_tellsOf_6 : decode cX0_tellsOf 6 = .ok (.istore_n 2, 1) := by decide +kernel
theorem dX0_tellsOf_7 : decode cX0_tellsOf 7 = .ok (.aload_n 0, 1) := by decide +kernel
theorem dX0_tellsOf_8 : decode cX0_tellsOf 8 = .ok (.getfield 18, 3) := by decide +kernel
theorem dX0_tellsOf_11 : decode cX0_tellsOf 11 = .ok (.iconst 3, 1) := by decide +kernel
theorem dX0_tellsOf_12 : decode cX0_tellsOf 12 = .ok (.if_icmp .ne 13, 3) := by decide +kernel
theorem dX0_tellsOf_15 : decode cX0_tellsOf 15 = .ok (.iload_n 2, 1) := by decide +kernel
theorem dX0_tellsOf_16 : decode cX0_tellsOf 16 = .ok (.aload_n 0, 1) := by decide +kernel
theorem dX0_tellsOf_17 : decode cX0_tellsOf 17 = .ok (.getfield 22, 3) := by decide +kernel
theorem dX0_tellsOf_20 : decode cX0_tellsOf 20 = .ok (.iadd, 1) := by decide +kernel
theorem dX0_tellsOf_21 : decode cX0_tellsOf 21 = .ok (.istore_n 2, 1) := by decide +kernel
theorem dX0_tellsOf_22 : decode cX0_tellsOf 22 = .ok (.goto 17, 3) := by decide +kernel
theorem dX0_tellsOf_25 : decode cX0_tellsOf 25 = .ok (.aload_n 0, 1) := by decide +kernel
theorem dX0_tellsOf_26 : decode cX0_tellsOf 26 = .ok (.getfield 18, 3) := by decide +kernel
theorem dX0_tellsOf_29 : decode cX0_tellsOf 29 = .ok (.iconst 4, 1) := by decide +kernel
theorem dX0_tellsOf_30 : decode cX0_tellsOf 30 = .ok (.if_icmp .ne 9, 3) := by decide +kernel
theorem dX0_tellsOf_33 : decode cX0_tellsOf 33 = .ok (.iload_n 2, 1) := by decide +kernel
theorem dX0_tellsOf_34 : decode cX0_tellsOf 34 = .ok (.iload_n 1, 1) := by decide +kernel
theorem dX0_tellsOf_35 : decode cX0_tellsOf 35 = .ok (.iconst 2, 1) := by decide +kernel
theorem dX0_tellsOf_36 : decode cX0_tellsOf 36 = .ok (.irem, 1) := by decide +kernel
theorem dX0_tellsOf_37 : decode cX0_tellsOf 37 = .ok (.iadd, 1) := by decide +kernel
theorem dX0_tellsOf_38 : decode cX0_tellsOf 38 = .ok (.istore_n 2, 1) := by decide +kernel
theorem dX0_tellsOf_39 : decode cX0_tellsOf 39 = .ok (.iconst 0, 1) := by decide +kernel
theorem dX0_tellsOf_40 : decode cX0_tellsOf 40 = .ok (.sipush 999, 3) := by decide +kernel
theorem dX0_tellsOf_43 : decode cX0_tellsOf 43 = .ok (.iload_n 2, 1) := by decide +kernel
theorem dX0_tellsOf_44 : decode cX0_tellsOf 44 = .ok (.invokestatic 55, 3) := by decide +kernel
theorem dX0_tellsOf_47 : decode cX0_tellsOf 47 = .ok (.invokestatic 61, 3) := by decide +kernel
theorem dX0_tellsOf_50 : decode cX0_tellsOf 50 = .ok (.ireturn, 1) := by decide +kernel
theorem dX1_init_0 : decode cX1_init 0 = .ok (.aload_n 0, 1) := by decide +kernel
theorem dX1_init_1 : decode cX1_init 1 = .ok (.invokespecial 3, 3) := by decide +kernel
theorem dX1_init_4 : decode cX1_init 4 = .ok (.aload_n 0, 1) := by decide +kernel
theorem dX1_init_5 : decode cX1_init 5 = .ok (.bipush 24, 2) := by decide +kernel
theorem dX1_init_7 : decode cX1_init 7 = .ok (.newarray .int, 2) := by decide +kernel
theorem dX1_init_9 : decode cX1_init 9 = .ok (.putfield 9, 3) := by decide +kernel
theorem dX1_init_12 : decode cX1_init 12 = .ok (.return_, 1) := by decide +kernel
theorem dX1_lay_0 : decode cX1_lay 0 = .ok (.aload_n 0, 1) := by decide +kernel
theorem dX1_lay_1 : decode cX1_lay 1 = .ok (.iload_n 1, 1) := by decide +kernel
theorem dX1_lay_2 : decode cX1_lay 2 = .ok (.putfield 15, 3) := by decide +kernel
theorem dX1_lay_5 : decode cX1_lay 5 = .ok (.aload_n 0, 1) := by decide +kernel
theorem dX1_lay_6 : decode cX1_lay 6 = .ok (.iload_n 2, 1) := by decide +kernel
theorem dX1_lay_7 : decode cX1_lay 7 = .ok (.putfield 19, 3) := by decide +kernel
theorem dX1_lay_10 : decode cX1_lay 10 = .ok (.iconst 0, 1) := by decide +kernel
theorem dX1_lay_11 : decode cX1_lay 11 = .ok (.istore_n 3, 1) := by decide +kernel
theorem dX1_lay_12 : decode cX1_lay 12 = .ok (.iload_n 3, 1) := by decide +kernel
theorem dX1_lay_13 : decode cX1_lay 13 = .ok (.bipush 24, 2) := by decide +kernel
theorem dX1_lay_15 : decode cX1_lay 15 = .ok (.if_icmp .ge 16, 3) := by decide +kernel
theorem dX1_lay_18 : decode cX1_lay 18 = .ok (.aload_n 0, 1) := by decide +kernel
theorem dX1_lay_19 : decode cX1_lay 19 = .ok (.getfield 9, 3) := by decide +kernel
theorem dX1_lay_22 : decode cX1_lay 22 = .ok (.iload_n 3, 1) := by decide +kernel
theorem dX1_lay_23 : decode cX1_lay 23 = .ok (.iconst 0, 1) := by decide +kernel
theorem dX1_lay_24 : decode cX1_lay 24 = .ok (.iastore, 1) := by decide +kernel
theorem dX1_lay_25 : decode cX1_lay 25 = .ok (.iinc 3 1, 3) := by decide +kernel
theorem dX1_lay_28 : decode cX1_lay 28 = .ok (.goto (-16), 3) := by decide +kernel
theorem dX1_lay_31 : decode cX1_lay 31 = .ok (.return_, 1) := by decide +kernel
theorem dX1_isMissing_0 : decode cX1_isMissing 0 = .ok (.aload_n 0, 1) := by decide +kernel
theorem dX1_isMissing_1 : decode cX1_isMissing 1 = .ok (.getfield 15, 3) := by decide +kernel
theorem dX1_isMissing_4 : decode cX1_isMissing 4 = .ok (.ifCond .ne 7, 3) := by decide +kernel
theorem dX1_isMissing_7 : decode cX1_isMissing 7 = .ok (.iconst 1, 1) := by decide +kernel
theorem dX1_isMissing_8 : decode cX1_isMissing 8 = .ok (.goto 4, 3) := by decide +kernel
theorem dX1_isMissing_11 : decode cX1_isMissing 11 = .ok (.iconst 0, 1) := by decide +kernel
theorem dX1_isMissing_12 : decode cX1_isMissing 12 = .ok (.ireturn, 1) := by decide +kernel
theorem dX1_write_0 : decode cX1_write 0 = .ok (.aload_n 0, 1) := by decide +kernel
theorem dX1_write_1 : decode cX1_write 1 = .ok (.getfield 15, 3) := by decide +kernel
theorem dX1_write_4 : decode cX1_write 4 = .ok (.bipush 8, 2) := by decide +kernel
theorem dX1_write_6 : decode cX1_write 6 = .ok (.if_icmp .ne 14, 3) := by decide +kernel
theorem dX1_write_9 : decode cX1_write 9 = .ok (.aload_n 0, 1) := by decide +kernel
theorem dX1_write_10 : decode cX1_write 10 = .ok (.getfield 9, 3) := by decide +kernel
theorem dX1_write_13 : decode cX1_write 13 = .ok (.iload_n 1, 1) := by decide +kernel
theorem dX1_write_14 : decode cX1_write 14 = .ok (.iload_n 2, 1) := by decide +kernel
theorem dX1_write_15 : decode cX1_write 15 = .ok (.i2b, 1) := by decide +kernel
theorem dX1_write_16 : decode cX1_write 16 = .ok (.iastore, 1) := by decide +kernel
theorem dX1_write_17 : decode cX1_write 17 = .ok (.goto 30, 3) := by decide +kernel
theorem dX1_write_20 : decode cX1_write 20 = .ok (.aload_n 0, 1) := by decide +kernel
theorem dX1_write_21 : decode cX1_write 21 = .ok (.getfield 15, 3) := by decide +kernel
theorem dX1_write_24 : decode cX1_write 24 = .ok (.bipush 16, 2) := by decide +kernel
theorem dX1_write_26 : decode cX1_write 26 = .ok (.if_icmp .ne 14, 3) := by decide +kernel
theorem dX1_write_29 : decode cX1_write 29 = .ok (.aload_n 0, 1) := by decide +kernel
theorem dX1_write_30 : decode cX1_write 30 = .ok (.getfield 9, 3) := by decide +kernel
theorem dX1_write_33 : decode cX1_write 33 = .ok (.iload_n 1, 1) := by decide +kernel
theorem dX1_write_34 : decode cX1_write 34 = .ok (.iload_n 2, 1) := by decide +kernel
theorem dX1_write_35 : decode cX1_write 35 = .ok (.i2s, 1) := by decide +kernel
theorem dX1_write_36 : decode cX1_write 36 = .ok (.iastore, 1) := by decide +kernel
theorem dX1_write_37 : decode cX1_write 37 = .ok (.goto 10, 3) := by decide +kernel
theorem dX1_write_40 : decode cX1_write 40 = .ok (.aload_n 0, 1) := by decide +kernel
theorem dX1_write_41 : decode cX1_write 41 = .ok (.getfield 9, 3) := by decide +kernel
theorem dX1_write_44 : decode cX1_write 44 = .ok (.iload_n 1, 1) := by decide +kernel
theorem dX1_write_45 : decode cX1_write 45 = .ok (.iload_n 2, 1) := by decide +kernel
theorem dX1_write_46 : decode cX1_write 46 = .ok (.iastore, 1) := by decide +kernel
theorem dX1_write_47 : decode cX1_write 47 = .ok (.return_, 1) := by decide +kernel
theorem dX1_holds_0 : decode cX1_holds 0 = .ok (.iload_n 1, 1) := by decide +kernel
theorem dX1_holds_1 : decode cX1_holds 1 = .ok (.ifCond .lt 29, 3) := by decide +kernel
theorem dX1_holds_4 : decode cX1_holds 4 = .ok (.iload_n 2, 1) := by decide +kernel
theorem dX1_holds_5 : decode cX1_holds 5 = .ok (.ifCond .lt 25, 3) := by decide +kernel
theorem dX1_holds_8 : decode cX1_holds 8 = .ok (.iload_n 2, 1) := by decide +kernel
theorem dX1_holds_9 : decode cX1_holds 9 = .ok (.aload_n 0, 1) := by decide +kernel
theorem dX1_holds_10 : decode cX1_holds 10 = .ok (.getfield 19, 3) := by decide +kernel
theorem dX1_holds_13 : decode cX1_holds 13 = .ok (.if_icmp .gt 17, 3) := by decide +kernel
theorem dX1_holds_16 : decode cX1_holds 16 = .ok (.iload_n 1, 1) := by decide +kernel
theorem dX1_holds_17 : decode cX1_holds 17 = .ok (.aload_n 0, 1) := by decide +kernel
theorem dX1_holds_18 : decode cX1_holds 18 = .ok (.getfield 19, 3) := by decide +kernel
theorem dX1_holds_21 : decode cX1_holds 21 = .ok (.iload_n 2, 1) := by decide +kernel
theorem dX1_holds_22 : decode cX1_holds 22 = .ok (.isub, 1) := by decide +kernel
theorem dX1_holds_23 : decode cX1_holds 23 = .ok (.if_icmp .gt 7, 3) := by decide +kernel
theorem dX1_holds_26 : decode cX1_holds 26 = .ok (.iconst 1, 1) := by decide +kernel
theorem dX1_holds_27 : decode cX1_holds 27 = .ok (.goto 4, 3) := by decide +kernel
theorem dX1_holds_30 : decode cX1_holds 30 = .ok (.iconst 0, 1) := by decide +kernel
theorem dX1_holds_31 : decode cX1_holds 31 = .ok (.ireturn, 1) := by decide +kernel
theorem dX2_init_0 : decode cX2_init 0 = .ok (.aload_n 0, 1) := by decide +kernel
theorem dX2_init_1 : decode cX2_init 1 = .ok (.invokespecial 3, 3) := by decide +kernel
theorem dX2_init_4 : decode cX2_init 4 = .ok (.aload_n 0, 1) := by decide +kernel
theorem dX2_init_5 : decode cX2_init 5 = .ok (.bipush 6, 2) := by decide +kernel
theorem dX2_init_7 : decode cX2_init 7 = .ok (.anewarray 9, 3) := by decide +kernel
theorem dX2_init_10 : decode cX2_init 10 = .ok (.putfield 11, 3) := by decide +kernel
theorem dX2_init_13 : decode cX2_init 13 = .ok (.aload_n 0, 1) := by decide +kernel
theorem dX2_init_14 : decode cX2_init 14 = .ok (.bipush 12, 2) := by decide +kernel
theorem dX2_init_16 : decode cX2_init 16 = .ok (.newarray .int, 2) := by decide +kernel
theorem dX2_init_18 : decode cX2_init 18 = .ok (.putfield 17, 3) := by decide +kernel
theorem dX2_init_21 : decode cX2_init 21 = .ok (.aload_n 0, 1) := by decide +kernel
theorem dX2_init_22 : decode cX2_init 22 = .ok (.bipush 12, 2) := by decide +kernel
theorem dX2_init_24 : decode cX2_init 24 = .ok (.newarray .int, 2) := by decide +kernel
theorem dX2_init_26 : decode cX2_init 26 = .ok (.putfield 21, 3) := by decide +kernel
theorem dX2_init_29 : decode cX2_init 29 = .ok (.aload_n 0, 1) := by decide +kernel
theorem dX2_init_30 : decode cX2_init 30 = .ok (.iconst 4, 1) := by decide +kernel
theorem dX2_init_31 : decode cX2_init 31 = .ok (.anewarray 24, 3) := by decide +kernel
theorem dX2_init_34 : decode cX2_init 34 = .ok (.putfield 26, 3) := by decide +kernel
theorem dX2_init_37 : decode cX2_init 37 = .ok (.aload_n 0, 1) := by decide +kernel
theorem dX2_init_38 : decode cX2_init 38 = .ok (.iconst 4, 1) := by decide +kernel
theorem dX2_init_39 : decode cX2_init 39 = .ok (.putfield 30, 3) := by decide +kernel
theorem dX2_init_42 : decode cX2_init 42 = .ok (.aload_n 0, 1) := by decide +kernel
theorem dX2_init_43 : decode cX2_init 43 = .ok (.iconst 1, 1) := by decide +kernel
theorem dX2_init_44 : decode cX2_init 44 = .ok (.putfield 34, 3) := by decide +kernel
theorem dX2_init_47 : decode cX2_init 47 = .ok (.aload_n 0, 1) := by decide +kernel
theorem dX2_init_48 : decode cX2_init 48 = .ok (.bipush 60, 2) := by decide +kernel
theorem dX2_init_50 : decode cX2_init 50 = .ok (.newarray .byte, 2) := by decide +kernel
theorem dX2_init_52 : decode cX2_init 52 = .ok (.putfield 37, 3) := by decide +kernel
theorem dX2_init_55 : decode cX2_init 55 = .ok (.aload_n 0, 1) := by decide +kernel
theorem dX2_init_56 : decode cX2_init 56 = .ok (.iconst 2, 1) := by decide +kernel
theorem dX2_init_57 : decode cX2_init 57 = .ok (.anewarray 41, 3) := by decide +kernel
theorem dX2_init_60 : decode cX2_init 60 = .ok (.putfield 43, 3) := by decide +kernel
theorem dX2_init_63 : decode cX2_init 63 = .ok (.aload_n 0, 1) := by decide +kernel
theorem dX2_init_64 : decode cX2_init 64 = .ok (.bipush 24, 2) := by decide +kernel
theorem dX2_init_66 : decode cX2_init 66 = .ok (.newarray .int, 2) := by decide +kernel
theorem dX2_init_68 : decode cX2_init 68 = .ok (.putfield 47, 3) := by decide +kernel
theorem dX2_init_71 : decode cX2_init 71 = .ok (.iconst 0, 1) := by decide +kernel
theorem dX2_init_72 : decode cX2_init 72 = .ok (.istore_n 1, 1) := by decide +kernel
theorem dX2_init_73 : decode cX2_init 73 = .ok (.iload_n 1, 1) := by decide +kernel
theorem dX2_init_74 : decode cX2_init 74 = .ok (.bipush 6, 2) := by decide +kernel
theorem dX2_init_76 : decode cX2_init 76 = .ok (.if_icmp .ge 22, 3) := by decide +kernel
theorem dX2_init_79 : decode cX2_init 79 = .ok (.aload_n 0, 1) := by decide +kernel
theorem dX2_init_80 : decode cX2_init 80 = .ok (.getfield 11, 3) := by decide +kernel
theorem dX2_init_83 : decode cX2_init 83 = .ok (.iload_n 1, 1) := by decide +kernel
theorem dX2_init_84 : decode cX2_init 84 = .ok (.new 9, 3) := by decide +kernel
theorem dX2_init_87 : decode cX2_init 87 = .ok (.dup, 1) := by decide +kernel
theorem dX2_init_88 : decode cX2_init 88 = .ok (.invokespecial 50, 3) := by decide +kernel
theorem dX2_init_91 : decode cX2_init 91 = .ok (.aastore, 1) := by decide +kernel
theorem dX2_init_92 : decode cX2_init 92 = .ok (.iinc 1 1, 3) := by decide +kernel
theorem dX2_init_95 : decode cX2_init 95 = .ok (.goto (-22), 3) := by decide +kernel
theorem dX2_init_98 : decode cX2_init 98 = .ok (.iconst 0, 1) := by decide +kernel
theorem dX2_init_99 : decode cX2_init 99 = .ok (.istore_n 1, 1) := by decide +kernel
theorem dX2_init_100 : decode cX2_init 100 = .ok (.iload_n 1, 1) := by decide +kernel
theorem dX2_init_101 : decode cX2_init 101 = .ok (.iconst 4, 1) := by decide +kernel
theorem dX2_init_102 : decode cX2_init 102 = .ok (.if_icmp .ge 22, 3) := by decide +kernel
theorem dX2_init_105 : decode cX2_init 105 = .ok (.aload_n 0, 1) := by decide +kernel
theorem dX2_init_106 : decode cX2_init 106 = .ok (.getfield 26, 3) := by decide +kernel
theorem dX2_init_109 : decode cX2_init 109 = .ok (.iload_n 1, 1) := by decide +kernel
theorem dX2_init_110 : decode cX2_init 110 = .ok (.new 24, 3) := by decide +kernel
theorem dX2_init_113 : decode cX2_init 113 = .ok (.dup, 1) := by decide +kernel
theorem dX2_init_114 : decode cX2_init 114 = .ok (.invokespecial 51, 3) := by decide +kernel
theorem dX2_init_117 : decode cX2_init 117 = .ok (.aastore, 1) := by decide +kernel
theorem dX2_init_118 : decode cX2_init 118 = .ok (.iinc 1 1, 3) := by decide +kernel
theorem dX2_init_121 : decode cX2_init 121 = .ok (.goto (-21), 3) := by decide +kernel
theorem dX2_init_124 : decode cX2_init 124 = .ok (.return_, 1) := by decide +kernel
theorem dX2_copyFrom_0 : decode cX2_copyFrom 0 = .ok (.aload_n 0, 1) := by decide +kernel
theorem dX2_copyFrom_1 : decode cX2_copyFrom 1 = .ok (.aload_n 1, 1) := by decide +kernel
theorem dX2_copyFrom_2 : decode cX2_copyFrom 2 = .ok (.getfield 52, 3) := by decide +kernel
theorem dX2_copyFrom_5 : decode cX2_copyFrom 5 = .ok (.putfield 52, 3) := by decide +kernel
theorem dX2_copyFrom_8 : decode cX2_copyFrom 8 = .ok (.aload_n 0, 1) := by decide +kernel
theorem dX2_copyFrom_9 : decode cX2_copyFrom 9 = .ok (.aload_n 1, 1) := by decide +kernel
theorem dX2_copyFrom_10 : decode cX2_copyFrom 10 = .ok (.getfield 55, 3) := by decide +kernel
theorem dX2_copyFrom_13 : decode cX2_copyFrom 13 = .ok (.putfield 55, 3) := by decide +kernel
theorem dX2_copyFrom_16 : decode cX2_copyFrom 16 = .ok (.aload_n 0, 1) := by decide +kernel
theorem dX2_copyFrom_17 : decode cX2_copyFrom 17 = .ok (.aload_n 1, 1) := by decide +kernel
theorem dX2_copyFrom_18 : decode cX2_copyFrom 18 = .ok (.getfield 58, 3) := by decide +kernel
theorem dX2_copyFrom_21 : decode cX2_copyFrom 21 = .ok (.putfield 58, 3) := by decide +kernel
theorem dX2_copyFrom_24 : decode cX2_copyFrom 24 = .ok (.aload_n 0, 1) := by decide +kernel
theorem dX2_copyFrom_25 : decode cX2_copyFrom 25 = .ok (.aload_n 1, 1) := by decide +kernel
theorem dX2_copyFrom_26 : decode cX2_copyFrom 26 = .ok (.getfield 61, 3) := by decide +kernel
theorem dX2_copyFrom_29 : decode cX2_copyFrom 29 = .ok (.putfield 61, 3) := by decide +kernel
theorem dX2_copyFrom_32 : decode cX2_copyFrom 32 = .ok (.aload_n 0, 1) := by decide +kernel
theorem dX2_copyFrom_33 : decode cX2_copyFrom 33 = .ok (.aload_n 1, 1) := by decide +kernel
theorem dX2_copyFrom_34 : decode cX2_copyFrom 34 = .ok (.getfield 64, 3) := by decide +kernel
theorem dX2_copyFrom_37 : decode cX2_copyFrom 37 = .ok (.putfield 64, 3) := by decide +kernel
theorem dX2_copyFrom_40 : decode cX2_copyFrom 40 = .ok (.aload_n 0, 1) := by decide +kernel
theorem dX2_copyFrom_41 : decode cX2_copyFrom 41 = .ok (.aload_n 1, 1) := by decide +kernel
theorem dX2_copyFrom_42 : decode cX2_copyFrom 42 = .ok (.getfield 30, 3) := by decide +kernel
theorem dX2_copyFrom_45 : decode cX2_copyFrom 45 = .ok (.putfield 30, 3) := by decide +kernel
theorem dX2_copyFrom_48 : decode cX2_copyFrom 48 = .ok (.aload_n 0, 1) := by decide +kernel
theorem dX2_copyFrom_49 : decode cX2_copyFrom 49 = .ok (.aload_n 1, 1) := by decide +kernel
theorem dX2_copyFrom_50 : decode cX2_copyFrom 50 = .ok (.getfield 34, 3) := by decide +kernel
theorem dX2_copyFrom_53 : decode cX2_copyFrom 53 = .ok (.putfield 34, 3) := by decide +kernel
theorem dX2_copyFrom_56 : decode cX2_copyFrom 56 = .ok (.aload_n 0, 1) := by decide +kernel
theorem dX2_copyFrom_57 : decode cX2_copyFrom 57 = .ok (.aload_n 1, 1) := by decide +kernel
theorem dX2_copyFrom_58 : decode cX2_copyFrom 58 = .ok (.getfield 67, 3) := by decide +kernel
theorem dX2_copyFrom_61 : decode cX2_copyFrom 61 = .ok (.putfield 67, 3) := by decide +kernel
theorem dX2_copyFrom_64 : decode cX2_copyFrom 64 = .ok (.aload_n 0, 1) := by decide +kernel
theorem dX2_copyFrom_65 : decode cX2_copyFrom 65 = .ok (.aload_n 1, 1) := by decide +kernel
theorem dX2_copyFrom_66 : decode cX2_copyFrom 66 = .ok (.getfield 70, 3) := by decide +kernel
theorem dX2_copyFrom_69 : decode cX2_copyFrom 69 = .ok (.putfield 70, 3) := by decide +kernel
theorem dX2_copyFrom_72 : decode cX2_copyFrom 72 = .ok (.iconst 0, 1) := by decide +kernel
theorem dX2_copyFrom_73 : decode cX2_copyFrom 73 = .ok (.istore_n 2, 1) := by decide +kernel
theorem dX2_copyFrom_74 : decode cX2_copyFrom 74 = .ok (.iload_n 2, 1) := by decide +kernel
theorem dX2_copyFrom_75 : decode cX2_copyFrom 75 = .ok (.aload_n 0, 1) := by decide +kernel
theorem dX2_copyFrom_76 : decode cX2_copyFrom 76 = .ok (.getfield 52, 3) := by decide +kernel
theorem dX2_copyFrom_79 : decode cX2_copyFrom 79 = .ok (.if_icmp .ge 24, 3) := by decide +kernel
theorem dX2_copyFrom_82 : decode cX2_copyFrom 82 = .ok (.aload_n 0, 1) := by decide +kernel
theorem dX2_copyFrom_83 : decode cX2_copyFrom 83 = .ok (.getfield 11, 3) := by decide +kernel
theorem dX2_copyFrom_86 : decode cX2_copyFrom 86 = .ok (.iload_n 2, 1) := by decide +kernel
theorem dX2_copyFrom_87 : decode cX2_copyFrom 87 = .ok (.aaload, 1) := by decide +kernel
theorem dX2_copyFrom_88 : decode cX2_copyFrom 88 = .ok (.aload_n 1, 1) := by decide +kernel
theorem dX2_copyFrom_89 : decode cX2_copyFrom 89 = .ok (.getfield 11, 3) := by decide +kernel
theorem dX2_copyFrom_92 : decode cX2_copyFrom 92 = .ok (.iload_n 2, 1) := by decide +kernel
theorem dX2_copyFrom_93 : decode cX2_copyFrom 93 = .ok (.aaload, 1) := by decide +kernel
theorem dX2_copyFrom_94 : decode cX2_copyFrom 94 = .ok (.invokevirtual 73, 3) := by decide +kernel
theorem dX2_copyFrom_97 : decode cX2_copyFrom 97 = .ok (.iinc 2 1, 3) := by decide +kernel
theorem dX2_copyFrom_100 : decode cX2_copyFrom 100 = .ok (.goto (-26), 3) := by decide +kernel
theorem dX2_copyFrom_103 : decode cX2_copyFrom 103 = .ok (.iconst 0, 1) := by decide +kernel
theorem dX2_copyFrom_104 : decode cX2_copyFrom 104 = .ok (.istore_n 2, 1) := by decide +kernel
theorem dX2_copyFrom_105 : decode cX2_copyFrom 105 = .ok (.iload_n 2, 1) := by decide +kernel
theorem dX2_copyFrom_106 : decode cX2_copyFrom 106 = .ok (.iconst 4, 1) := by decide +kernel
theorem dX2_copyFrom_107 : decode cX2_copyFrom 107 = .ok (.if_icmp .ge 24, 3) := by decide +kernel
theorem dX2_copyFrom_110 : decode cX2_copyFrom 110 = .ok (.aload_n 0, 1) := by decide +kernel
theorem dX2_copyFrom_111 : decode cX2_copyFrom 111 = .ok (.getfield 26, 3) := by decide +kernel
theorem dX2_copyFrom_114 : decode cX2_copyFrom 114 = .ok (.iload_n 2, 1) := by decide +kernel
theorem dX2_copyFrom_115 : decode cX2_copyFrom 115 = .ok (.aaload, 1) := by decide +kernel
theorem dX2_copyFrom_116 : decode cX2_copyFrom 116 = .ok (.aload_n 1, 1) := by decide +kernel
theorem dX2_copyFrom_117 : decode cX2_copyFrom 117 = .ok (.getfield 26, 3) := by decide +kernel
theorem dX2_copyFrom_120 : decode cX2_copyFrom 120 = .ok (.iload_n 2, 1) := by decide +kernel
theorem dX2_copyFrom_121 : decode cX2_copyFrom 121 = .ok (.aaload, 1) := by decide +kernel
theorem dX2_copyFrom_122 : decode cX2_copyFrom 122 = .ok (.invokevirtual 77, 3) := by decide +kernel
theorem dX2_copyFrom_125 : decode cX2_copyFrom 125 = .ok (.iinc 2 1, 3) := by decide +kernel
theorem dX2_copyFrom_128 : decode cX2_copyFrom 128 = .ok (.goto (-23), 3) := by decide +kernel
theorem dX2_copyFrom_131 : decode cX2_copyFrom 131 = .ok (.iconst 0, 1) := by decide +kernel
theorem dX2_copyFrom_132 : decode cX2_copyFrom 132 = .ok (.istore_n 2, 1) := by decide +kernel
theorem dX2_copyFrom_133 : decode cX2_copyFrom 133 = .ok (.iload_n 2, 1) := by decide +kernel
theorem dX2_copyFrom_134 : decode cX2_copyFrom 134 = .ok (.iconst 2, 1) := by decide +kernel
theorem dX2_copyFrom_135 : decode cX2_copyFrom 135 = .ok (.if_icmp .ge 21, 3) := by decide +kernel
theorem dX2_copyFrom_138 : decode cX2_copyFrom 138 = .ok (.aload_n 0, 1) := by decide +kernel
theorem dX2_copyFrom_139 : decode cX2_copyFrom 139 = .ok (.getfield 43, 3) := by decide +kernel
theorem dX2_copyFrom_142 : decode cX2_copyFrom 142 = .ok (.iload_n 2, 1) := by decide +kernel
theorem dX2_copyFrom_143 : decode cX2_copyFrom 143 = .ok (.aload_n 1, 1) := by decide +kernel
theorem dX2_copyFrom_144 : decode cX2_copyFrom 144 = .ok (.getfield 43, 3) := by decide +kernel
theorem dX2_copyFrom_147 : decode cX2_copyFrom 147 = .ok (.iload_n 2, 1) := by decide +kernel
theorem dX2_copyFrom_148 : decode cX2_copyFrom 148 = .ok (.aaload, 1) := by decide +kernel
theorem dX2_copyFrom_149 : decode cX2_copyFrom 149 = .ok (.aastore, 1) := by decide +kernel
theorem dX2_copyFrom_150 : decode cX2_copyFrom 150 = .ok (.iinc 2 1, 3) := by decide +kernel
theorem dX2_copyFrom_153 : decode cX2_copyFrom 153 = .ok (.goto (-20), 3) := by decide +kernel
theorem dX2_copyFrom_156 : decode cX2_copyFrom 156 = .ok (.aload_n 1, 1) := by decide +kernel
theorem dX2_copyFrom_157 : decode cX2_copyFrom 157 = .ok (.getfield 17, 3) := by decide +kernel
theorem dX2_copyFrom_160 : decode cX2_copyFrom 160 = .ok (.iconst 0, 1) := by decide +kernel
theorem dX2_copyFrom_161 : decode cX2_copyFrom 161 = .ok (.aload_n 0, 1) := by decide +kernel
theorem dX2_copyFrom_162 : decode cX2_copyFrom 162 = .ok (.getfield 17, 3) := by decide +kernel
theorem dX2_copyFrom_165 : decode cX2_copyFrom 165 = .ok (.iconst 0, 1) := by decide +kernel
theorem dX2_copyFrom_166 : decode cX2_copyFrom 166 = .ok (.aload_n 0, 1) := by decide +kernel
theorem dX2_copyFrom_167 : decode cX2_copyFrom 167 = .ok (.getfield 55, 3) := by decide +kernel
theorem dX2_copyFrom_170 : decode cX2_copyFrom 170 = .ok (.invokestatic 80, 3) := by decide +kernel
theorem dX2_copyFrom_173 : decode cX2_copyFrom 173 = .ok (.aload_n 1, 1) := by decide +kernel
theorem dX2_copyFrom_174 : decode cX2_copyFrom 174 = .ok (.getfield 21, 3) := by decide +kernel
theorem dX2_copyFrom_177 : decode cX2_copyFrom 177 = .ok (.iconst 0, 1) := by decide +kernel
theorem dX2_copyFrom_178 : decode cX2_copyFrom 178 = .ok (.aload_n 0, 1) := by decide +kernel
theorem dX2_copyFrom_179 : decode cX2_copyFrom 179 = .ok (.getfield 21, 3) := by decide +kernel
theorem dX2_copyFrom_182 : decode cX2_copyFrom 182 = .ok (.iconst 0, 1) := by decide +kernel
theorem dX2_copyFrom_183 : decode cX2_copyFrom 183 = .ok (.aload_n 0, 1) := by decide +kernel
theorem dX2_copyFrom_184 : decode cX2_copyFrom 184 = .ok (.getfield 55, 3) := by decide +kernel
theorem dX2_copyFrom_187 : decode cX2_copyFrom 187 = .ok (.invokestatic 80, 3) := by decide +kernel
theorem dX2_copyFrom_190 : decode cX2_copyFrom 190 = .ok (.aload_n 1, 1) := by decide +kernel
theorem dX2_copyFrom_191 : decode cX2_copyFrom 191 = .ok (.getfield 37, 3) := by decide +kernel
theorem dX2_copyFrom_194 : decode cX2_copyFrom 194 = .ok (.iconst 0, 1) := by decide +kernel
theorem dX2_copyFrom_195 : decode cX2_copyFrom 195 = .ok (.aload_n 0, 1) := by decide +kernel
theorem dX2_copyFrom_196 : decode cX2_copyFrom 196 = .ok (.getfield 37, 3) := by decide +kernel
theorem dX2_copyFrom_199 : decode cX2_copyFrom 199 = .ok (.iconst 0, 1) := by decide +kernel
theorem dX2_copyFrom_200 : decode cX2_copyFrom 200 = .ok (.aload_n 0, 1) := by decide +kernel
theorem dX2_copyFrom_201 : decode cX2_copyFrom 201 = .ok (.getfield 67, 3) := by decide +kernel
theorem dX2_copyFrom_204 : decode cX2_copyFrom 204 = .ok (.invokestatic 80, 3) := by decide +kernel
theorem dX2_copyFrom_207 : decode cX2_copyFrom 207 = .ok (.aload_n 1, 1) := by decide +kernel
theorem dX2_copyFrom_208 : decode cX2_copyFrom 208 = .ok (.getfield 47, 3) := by decide +kernel
theorem dX2_copyFrom_211 : decode cX2_copyFrom 211 = .ok (.iconst 0, 1) := by decide +kernel
theorem dX2_copyFrom_212 : decode cX2_copyFrom 212 = .ok (.aload_n 0, 1) := by decide +kernel
theorem dX2_copyFrom_213 : decode cX2_copyFrom 213 = .ok (.getfield 47, 3) := by decide +kernel
theorem dX2_copyFrom_216 : decode cX2_copyFrom 216 = .ok (.iconst 0, 1) := by decide +kernel
theorem dX2_copyFrom_217 : decode cX2_copyFrom 217 = .ok (.aload_n 0, 1) := by decide +kernel
theorem dX2_copyFrom_218 : decode cX2_copyFrom 218 = .ok (.getfield 70, 3) := by decide +kernel
theorem dX2_copyFrom_221 : decode cX2_copyFrom 221 = .ok (.invokestatic 80, 3) := by decide +kernel
theorem dX2_copyFrom_224 : decode cX2_copyFrom 224 = .ok (.return_, 1) := by decide +kernel
theorem dX2_addBunk_0 : decode cX2_addBunk 0 = .ok (.aload_n 0, 1) := by decide +kernel
theorem dX2_addBunk_1 : decode cX2_addBunk 1 = .ok (.getfield 11, 3) := by decide +kernel
theorem dX2_addBunk_4 : decode cX2_addBunk 4 = .ok (.aload_n 0, 1) := by decide +kernel
theorem dX2_addBunk_5 : decode cX2_addBunk 5 = .ok (.getfield 52, 3) := by decide +kernel
theorem dX2_addBunk_8 : decode cX2_addBunk 8 = .ok (.aaload, 1) := by decide +kernel
theorem dX2_addBunk_9 : decode cX2_addBunk 9 = .ok (.iload_n 1, 1) := by decide +kernel
theorem dX2_addBunk_10 : decode cX2_addBunk 10 = .ok (.iconst (-1), 1) := by decide +kernel
theorem dX2_addBunk_11 : decode cX2_addBunk 11 = .ok (.invokevirtual 86, 3) := by decide +kernel
theorem dX2_addBunk_14 : decode cX2_addBunk 14 = .ok (.aload_n 0, 1) := by decide +kernel
theorem dX2_addBunk_15 : decode cX2_addBunk 15 = .ok (.getfield 11, 3) := by decide +kernel
theorem dX2_addBunk_18 : decode cX2_addBunk 18 = .ok (.aload_n 0, 1) := by decide +kernel
theorem dX2_addBunk_19 : decode cX2_addBunk 19 = .ok (.getfield 52, 3) := by decide +kernel
theorem dX2_addBunk_22 : decode cX2_addBunk 22 = .ok (.aaload, 1) := by decide +kernel
theorem dX2_addBunk_23 : decode cX2_addBunk 23 = .ok (.iconst (-1), 1) := by decide +kernel
theorem dX2_addBunk_24 : decode cX2_addBunk 24 = .ok (.putfield 90, 3) := by decide +kernel
theorem dX2_addBunk_27 : decode cX2_addBunk 27 = .ok (.aload_n 0, 1) := by decide +kernel
theorem dX2_addBunk_28 : decode cX2_addBunk 28 = .ok (.dup, 1) := by decide +kernel
theorem dX2_addBunk_29 : decode cX2_addBunk 29 = .ok (.getfield 52, 3) := by decide +kernel
theorem dX2_addBunk_32 : decode cX2_addBunk 32 = .ok (.iconst 1, 1) := by decide +kernel
theorem dX2_addBunk_33 : decode cX2_addBunk 33 = .ok (.iadd, 1) := by decide +kernel
theorem dX2_addBunk_34 : decode cX2_addBunk 34 = .ok (.putfield 52, 3) := by decide +kernel
theorem dX2_addBunk_37 : decode cX2_addBunk 37 = .ok (.aload_n 0, 1) := by decide +kernel
theorem dX2_addBunk_38 : decode cX2_addBunk 38 = .ok (.getfield 52, 3) := by decide +kernel
theorem dX2_addBunk_41 : decode cX2_addBunk 41 = .ok (.iconst 1, 1) := by decide +kernel
theorem dX2_addBunk_42 : decode cX2_addBunk 42 = .ok (.isub, 1) := by decide +kernel
theorem dX2_addBunk_43 : decode cX2_addBunk 43 = .ok (.ireturn, 1) := by decide +kernel
theorem dX2_enlist_0 : decode cX2_enlist 0 = .ok (.aload_n 0, 1) := by decide +kernel
theorem dX2_enlist_1 : decode cX2_enlist 1 = .ok (.getfield 17, 3) := by decide +kernel
theorem dX2_enlist_4 : decode cX2_enlist 4 = .ok (.aload_n 0, 1) := by decide +kernel
theorem dX2_enlist_5 : decode cX2_enlist 5 = .ok (.getfield 55, 3) := by decide +kernel
theorem dX2_enlist_8 : decode cX2_enlist 8 = .ok (.iload_n 1, 1) := by decide +kernel
theorem dX2_enlist_9 : decode cX2_enlist 9 = .ok (.iastore, 1) := by decide +kernel
theorem dX2_enlist_10 : decode cX2_enlist 10 = .ok (.aload_n 0, 1) := by decide +kernel
theorem dX2_enlist_11 : decode cX2_enlist 11 = .ok (.getfield 21, 3) := by decide +kernel
theorem dX2_enlist_14 : decode cX2_enlist 14 = .ok (.aload_n 0, 1) := by decide +kernel
theorem dX2_enlist_15 : decode cX2_enlist 15 = .ok (.getfield 55, 3) := by decide +kernel
theorem dX2_enlist_18 : decode cX2_enlist 18 = .ok (.iload_n 2, 1) := by decide +kernel
theorem dX2_enlist_19 : decode cX2_enlist 19 = .ok (.iastore, 1) := by decide +kernel
theorem dX2_enlist_20 : decode cX2_enlist 20 = .ok (.aload_n 0, 1) := by decide +kernel
theorem dX2_enlist_21 : decode cX2_enlist 21 = .ok (.dup, 1) := by decide +kernel
theorem dX2_enlist_22 : decode cX2_enlist 22 = .ok (.getfield 55, 3) := by decide +kernel
theorem dX2_enlist_25 : decode cX2_enlist 25 = .ok (.iconst 1, 1) := by decide +kernel
theorem dX2_enlist_26 : decode cX2_enlist 26 = .ok (.iadd, 1) := by decide +kernel
theorem dX2_enlist_27 : decode cX2_enlist 27 = .ok (.putfield 55, 3) := by decide +kernel
theorem dX2_enlist_30 : decode cX2_enlist 30 = .ok (.aload_n 0, 1) := by decide +kernel
theorem dX2_enlist_31 : decode cX2_enlist 31 = .ok (.getfield 55, 3) := by decide +kernel
theorem dX2_enlist_34 : decode cX2_enlist 34 = .ok (.ireturn, 1) := by decide +kernel
theorem dX2_teachOnly_0 : decode cX2_teachOnly 0 = .ok (.iconst 0, 1) := by decide +kernel
theorem dX2_teachOnly_1 : decode cX2_teachOnly 1 = .ok (.istore_n 3, 1) := by decide +kernel
theorem dX2_teachOnly_2 : decode cX2_teachOnly 2 = .ok (.iload_n 3, 1) := by decide +kernel
theorem dX2_teachOnly_3 : decode cX2_teachOnly 3 = .ok (.aload_n 0, 1) := by decide +kernel
theorem dX2_teachOnly_4 : decode cX2_teachOnly 4 = .ok (.getfield 52, 3) := by decide +kernel
theorem dX2_teachOnly_7 : decode cX2_teachOnly 7 = .ok (.if_icmp .ge 31, 3) := by decide +kernel
theorem dX2_teachOnly_10 : decode cX2_teachOnly 10 = .ok (.aload_n 0, 1) := by decide +kernel
theorem dX2_teachOnly_11 : decode cX2_teachOnly 11 = .ok (.getfield 11, 3) := by decide +kernel
theorem dX2_teachOnly_14 : decode cX2_teachOnly 14 = .ok (.iload_n 3, 1) := by decide +kernel
theorem dX2_teachOnly_15 : decode cX2_teachOnly 15 = .ok (.aaload, 1) := by decide +kernel
theorem dX2_teachOnly_16 : decode cX2_teachOnly 16 = .ok (.iload_n 2, 1) := by decide +kernel
theorem dX2_teachOnly_17 : decode cX2_teachOnly 17 = .ok (.iload_n 3, 1) := by decide +kernel
theorem dX2_teachOnly_18 : decode cX2_teachOnly 18 = .ok (.ishr, 1) := by decide +kernel
theorem dX2_teachOnly_19 : decode cX2_teachOnly 19 = .ok (.iconst 1, 1) := by decide +kernel
theorem dX2_teachOnly_20 : decode cX2_teachOnly 20 = .ok (.iand, 1) := by decide +kernel
theorem dX2_teachOnly_21 : decode cX2_teachOnly 21 = .ok (.ifCond .eq 7, 3) := by decide +kernel
theorem dX2_teachOnly_24 : decode cX2_teachOnly 24 = .ok (.iload_n 1, 1) := by decide +kernel
theorem dX2_teachOnly_25 : decode cX2_teachOnly 25 = .ok (.goto 4, 3) := by decide +kernel
theorem dX2_teachOnly_28 : decode cX2_teachOnly 28 = .ok (.iconst (-1), 1) := by decide +kernel
theorem dX2_teachOnly_29 : decode cX2_teachOnly 29 = .ok (.putfield 90, 3) := by decide +kernel
theorem dX2_teachOnly_32 : decode cX2_teachOnly 32 = .ok (.iinc 3 1, 3) := by decide +kernel
theorem dX2_teachOnly_35 : decode cX2_teachOnly 35 = .ok (.goto (-33), 3) := by decide +kernel
theorem dX2_teachOnly_38 : decode cX2_teachOnly 38 = .ok (.return_, 1) := by decide +kernel
theorem dX2_passDay_0 : decode cX2_passDay 0 = .ok (.aload_n 0, 1) := by decide +kernel
theorem dX2_passDay_1 : decode cX2_passDay 1 = .ok (.invokevirtual 93, 3) := by decide +kernel
theorem dX2_passDay_4 : decode cX2_passDay 4 = .ok (.istore_n 1, 1) := by decide +kernel
theorem dX2_passDay_5 : decode cX2_passDay 5 = .ok (.aload_n 0, 1) := by decide +kernel
theorem dX2_passDay_6 : decode cX2_passDay 6 = .ok (.iconst 0, 1) := by decide +kernel
theorem dX2_passDay_7 : decode cX2_passDay 7 = .ok (.invokevirtual 97, 3) := by decide +kernel
theorem dX2_passDay_10 : decode cX2_passDay 10 = .ok (.pop, 1) := by decide +kernel
theorem dX2_passDay_11 : decode cX2_passDay 11 = .ok (.aload_n 0, 1) := by decide +kernel
theorem dX2_passDay_12 : decode cX2_passDay 12 = .ok (.invokevirtual 101, 3) := by decide +kernel
theorem dX2_passDay_15 : decode cX2_passDay 15 = .ok (.iload_n 1, 1) := by decide +kernel
theorem dX2_passDay_16 : decode cX2_passDay 16 = .ok (.ireturn, 1) := by decide +kernel
theorem dX2_passDayByDraws_0 : decode cX2_passDayByDraws 0 = .ok (.aload_n 0, 1) := by decide +kernel
theorem dX2_passDayByDraws_1 : decode cX2_passDayByDraws 1 = .ok (.invokevirtual 93, 3) := by decide +kernel
theorem dX2_passDayByDraws_4 : decode cX2_passDayByDraws 4 = .ok (.pop, 1) := by decide +kernel
theorem dX2_passDayByDraws_5 : decode cX2_passDayByDraws 5 = .ok (.aload_n 0, 1) := by decide +kernel
theorem dX2_passDayByDraws_6 : decode cX2_passDayByDraws 6 = .ok (.iconst 1, 1) := by decide +kernel
theorem dX2_passDayByDraws_7 : decode cX2_passDayByDraws 7 = .ok (.invokevirtual 97, 3) := by decide +kernel
theorem dX2_passDayByDraws_10 : decode cX2_passDayByDraws 10 = .ok (.istore_n 1, 1) := by decide +kernel
theorem dX2_passDayByDraws_11 : decode cX2_passDayByDraws 11 = .ok (.aload_n 0, 1) := by decide +kernel
theorem dX2_passDayByDraws_12 : decode cX2_passDayByDraws 12 = .ok (.invokevirtual 101, 3) := by decide +kernel
theorem dX2_passDayByDraws_15 : decode cX2_passDayByDraws 15 = .ok (.iload_n 1, 1) := by decide +kernel
theorem dX2_passDayByDraws_16 : decode cX2_passDayByDraws 16 = .ok (.ireturn, 1) := by decide +kernel
theorem dX2_relieve_0 : decode cX2_relieve 0 = .ok (.aload_n 0, 1) := by decide +kernel
theorem dX2_relieve_1 : decode cX2_relieve 1 = .ok (.getfield 52, 3) := by decide +kernel
theorem dX2_relieve_4 : decode cX2_relieve 4 = .ok (.ifCond .eq 10, 3) := by decide +kernel
theorem dX2_relieve_7 : decode cX2_relieve 7 = .ok (.aload_n 0, 1) := by decide +kernel
theorem dX2_relieve_8 : decode cX2_relieve 8 = .ok (.getfield 55, 3) := by decide +kernel
theorem dX2_relieve_11 : decode cX2_relieve 11 = .ok (.ifCond .ne 5, 3) := by decide +kernel
theorem dX2_relieve_14 : decode cX2_relieve 14 = .ok (.iconst 0, 1) := by decide +kernel
theorem dX2_relieve_15 : decode cX2_relieve 15 = .ok (.ireturn, 1) := by decide +kernel
theorem dX2_relieve_16 : decode cX2_relieve 16 = .ok (.aload_n 0, 1) := by decide +kernel
theorem dX2_relieve_17 : decode cX2_relieve 17 = .ok (.getfield 11, 3) := by decide +kernel
theorem dX2_relieve_20 : decode cX2_relieve 20 = .ok (.aload_n 0, 1) := by decide +kernel
theorem dX2_relieve_21 : decode cX2_relieve 21 = .ok (.getfield 64, 3) := by decide +kernel
theorem dX2_relieve_24 : decode cX2_relieve 24 = .ok (.aload_n 0, 1) := by decide +kernel
theorem dX2_relieve_25 : decode cX2_relieve 25 = .ok (.getfield 52, 3) := by decide +kernel
theorem dX2_relieve_28 : decode cX2_relieve 28 = .ok (.irem, 1) := by decide +kernel
theorem dX2_relieve_29 : decode cX2_relieve 29 = .ok (.aaload, 1) := by decide +kernel
theorem dX2_relieve_30 : decode cX2_relieve 30 = .ok (.astore_n 1, 1) := by decide +kernel
theorem dX2_relieve_31 : decode cX2_relieve 31 = .ok (.aload_n 1, 1) := by decide +kernel
theorem dX2_relieve_32 : decode cX2_relieve 32 = .ok (.aload_n 0, 1) := by decide +kernel
theorem dX2_relieve_33 : decode cX2_relieve 33 = .ok (.getfield 64, 3) := by decide +kernel
theorem dX2_relieve_36 : decode cX2_relieve 36 = .ok (.invokevirtual 104, 3) := by decide +kernel
theorem dX2_relieve_39 : decode cX2_relieve 39 = .ok (.ifCond .eq 5, 3) := by decide +kernel
theorem dX2_relieve_42 : decode cX2_relieve 42 = .ok (.iconst 0, 1) := by decide +kernel
theorem dX2_relieve_43 : decode cX2_relieve 43 = .ok (.ireturn, 1) := by decide +kernel
theorem dX2_relieve_44 : decode cX2_relieve 44 = .ok (.aload_n 1, 1) := by decide +kernel
theorem dX2_relieve_45 : decode cX2_relieve 45 = .ok (.aload_n 0, 1) := by decide +kernel
theorem dX2_relieve_46 : decode cX2_relieve 46 = .ok (.getfield 17, 3) := by decide +kernel
theorem dX2_relieve_49 : decode cX2_relieve 49 = .ok (.aload_n 0, 1) := by decide +kernel
theorem dX2_relieve_50 : decode cX2_relieve 50 = .ok (.getfield 58, 3) := by decide +kernel
theorem dX2_relieve_53 : decode cX2_relieve 53 = .ok (.iaload, 1) := by decide +kernel
theorem dX2_relieve_54 : decode cX2_relieve 54 = .ok (.aload_n 0, 1) := by decide +kernel
theorem dX2_relieve_55 : decode cX2_relieve 55 = .ok (.getfield 64, 3) := by decide +kernel
theorem dX2_relieve_58 : decode cX2_relieve 58 = .ok (.invokevirtual 86, 3) := by decide +kernel
theorem dX2_relieve_61 : decode cX2_relieve 61 = .ok (.aload_n 1, 1) := by decide +kernel
theorem dX2_relieve_62 : decode cX2_relieve 62 = .ok (.aload_n 0, 1) := by decide +kernel
theorem dX2_relieve_63 : decode cX2_relieve 63 = .ok (.getfield 61, 3) := by decide +kernel
theorem dX2_relieve_66 : decode cX2_relieve 66 = .ok (.iconst 0, 1) := by decide +kernel
theorem dX2_relieve_67 : decode cX2_relieve 67 = .ok (.invokevirtual 108, 3) := by decide +kernel
theorem dX2_relieve_70 : decode cX2_relieve 70 = .ok (.aload_n 1, 1) := by decide +kernel
theorem dX2_relieve_71 : decode cX2_relieve 71 = .ok (.aload_n 0, 1) := by decide +kernel
theorem dX2_relieve_72 : decode cX2_relieve 72 = .ok (.getfield 21, 3) := by decide +kernel
theorem dX2_relieve_75 : decode cX2_relieve 75 = .ok (.aload_n 0, 1) := by decide +kernel
theorem dX2_relieve_76 : decode cX2_relieve 76 = .ok (.getfield 58, 3) := by decide +kernel
theorem dX2_relieve_79 : decode cX2_relieve 79 = .ok (.iaload, 1) := by decide +kernel
theorem dX2_relieve_80 : decode cX2_relieve 80 = .ok (.iconst 1, 1) := by decide +kernel
theorem dX2_relieve_81 : decode cX2_relieve 81 = .ok (.invokevirtual 108, 3) := by decide +kernel
theorem dX2_relieve_84 : decode cX2_relieve 84 = .ok (.aload_n 0, 1) := by decide +kernel
theorem dX2_relieve_85 : decode cX2_relieve 85 = .ok (.aload_n 0, 1) := by decide +kernel
theorem dX2_relieve_86 : decode cX2_relieve 86 = .ok (.getfield 58, 3) := by decide +kernel
theorem dX2_relieve_89 : decode cX2_relieve 89 = .ok (.iconst 1, 1) := by decide +kernel
theorem dX2_relieve_90 : decode cX2_relieve 90 = .ok (.iadd, 1) := by decide +kernel
theorem dX2_relieve_91 : decode cX2_relieve 91 = .ok (.aload_n 0, 1) := by decide +kernel
theorem dX2_relieve_92 : decode cX2_relieve 92 = .ok (.getfield 55, 3) := by decide +kernel
theorem dX2_relieve_95 : decode cX2_relieve 95 = .ok (.irem, 1) := by decide +kernel
theorem dX2_relieve_96 : decode cX2_relieve 96 = .ok (.putfield 58, 3) := by decide +kernel
theorem dX2_relieve_99 : decode cX2_relieve 99 = .ok (.iconst 1, 1) := by decide +kernel
theorem dX2_relieve_100 : decode cX2_relieve 100 = .ok (.ireturn, 1) := by decide +kernel
theorem dX2_teachAll_0 : decode cX2_teachAll 0 = .ok (.iconst 0, 1) := by decide +kernel
theorem dX2_teachAll_1 : decode cX2_teachAll 1 = .ok (.istore_n 2, 1) := by decide +kernel
theorem dX2_teachAll_2 : decode cX2_teachAll 2 = .ok (.iconst 0, 1) := by decide +kernel
theorem dX2_teachAll_3 : decode cX2_teachAll 3 = .ok (.istore_n 3, 1) := by decide +kernel
theorem dX2_teachAll_4 : decode cX2_teachAll 4 = .ok (.iload_n 3, 1) := by decide +kernel
theorem dX2_teachAll_5 : decode cX2_teachAll 5 = .ok (.aload_n 0, 1) := by decide +kernel
theorem dX2_teachAll_6 : decode cX2_teachAll 6 = .ok (.getfield 52, 3) := by decide +kernel
theorem dX2_teachAll_9 : decode cX2_teachAll 9 = .ok (.if_icmp .ge 44, 3) := by decide +kernel
theorem dX2_teachAll_12 : decode cX2_teachAll 12 = .ok (.aload_n 0, 1) := by decide +kernel
theorem dX2_teachAll_13 : decode cX2_teachAll 13 = .ok (.getfield 52, 3) := by decide +kernel
theorem dX2_teachAll_16 : decode cX2_teachAll 16 = .ok (.iconst 1, 1) := by decide +kernel
theorem dX2_teachAll_17 : decode cX2_teachAll 17 = .ok (.if_icmp .le 36, 3) := by decide +kernel
theorem dX2_teachAll_20 : decode cX2_teachAll 20 = .ok (.iload_n 2, 1) := by decide +kernel
theorem dX2_teachAll_21 : decode cX2_teachAll 21 = .ok (.aload_n 0, 1) := by decide +kernel
theorem dX2_teachAll_22 : decode cX2_teachAll 22 = .ok (.aload_n 0, 1) := by decide +kernel
theorem dX2_teachAll_23 : decode cX2_teachAll 23 = .ok (.getfield 11, 3) := by decide +kernel
theorem dX2_teachAll_26 : decode cX2_teachAll 26 = .ok (.iload_n 3, 1) := by decide +kernel
theorem dX2_teachAll_27 : decode cX2_teachAll 27 = .ok (.aaload, 1) := by decide +kernel
theorem dX2_teachAll_28 : decode cX2_teachAll 28 = .ok (.aload_n 0, 1) := by decide +kernel
theorem dX2_teachAll_29 : decode cX2_teachAll 29 = .ok (.getfield 11, 3) := by decide +kernel
theorem dX2_teachAll_32 : decode cX2_teachAll 32 = .ok (.iload_n 3, 1) := by decide +kernel
theorem dX2_teachAll_33 : decode cX2_teachAll 33 = .ok (.iconst 1, 1) := by decide +kernel
theorem dX2_teachAll_34 : decode cX2_teachAll 34 = .ok (.iadd, 1) := by decide +kernel
theorem dX2_teachAll_35 : decode cX2_teachAll 35 = .ok (.aload_n 0, 1) := by decide +kernel
theorem dX2_teachAll_36 : decode cX2_teachAll 36 = .ok (.getfield 52, 3) := by decide +kernel
theorem dX2_teachAll_39 : decode cX2_teachAll 39 = .ok (.irem, 1) := by decide +kernel
theorem dX2_teachAll_40 : decode cX2_teachAll 40 = .ok (.aaload, 1) := by decide +kernel
theorem dX2_teachAll_41 : decode cX2_teachAll 41 = .ok (.iload_n 1, 1) := by decide +kernel
theorem dX2_teachAll_42 : decode cX2_teachAll 42 = .ok (.invokevirtual 111, 3) := by decide +kernel
theorem dX2_teachAll_45 : decode cX2_teachAll 45 = .ok (.iadd, 1) := by decide +kernel
theorem dX2_teachAll_46 : decode cX2_teachAll 46 = .ok (.istore_n 2, 1) := by decide +kernel
theorem dX2_teachAll_47 : decode cX2_teachAll 47 = .ok (.iinc 3 1, 3) := by decide +kernel
theorem dX2_teachAll_50 : decode cX2_teachAll 50 = .ok (.goto (-46), 3) := by decide +kernel
theorem dX2_teachAll_53 : decode cX2_teachAll 53 = .ok (.iload_n 2, 1) := by decide +kernel
theorem dX2_teachAll_54 : decode cX2_teachAll 54 = .ok (.ireturn, 1) := by decide +kernel
theorem dX2_teach_0 : decode cX2_teach 0 = .ok (.aload_n 1, 1) := by decide +kernel
theorem dX2_teach_1 : decode cX2_teach 1 = .ok (.getfield 90, 3) := by decide +kernel
theorem dX2_teach_4 : decode cX2_teach 4 = .ok (.istore 4, 2) := by decide +kernel
theorem dX2_teach_6 : decode cX2_teach 6 = .ok (.aload_n 1, 1) := by decide +kernel
theorem dX2_teach_7 : decode cX2_teach 7 = .ok (.iload 4, 2) := by decide +kernel
theorem dX2_teach_9 : decode cX2_teach 9 = .ok (.invokevirtual 115, 3) := by decide +kernel
theorem dX2_teach_12 : decode cX2_teach 12 = .ok (.ifCond .eq 20, 3) := by decide +kernel
theorem dX2_teach_15 : decode cX2_teach 15 = .ok (.aload_n 1, 1) := by decide +kernel
theorem dX2_teach_16 : decode cX2_teach 16 = .ok (.iconst 2, 1) := by decide +kernel
theorem dX2_teach_17 : decode cX2_teach 17 = .ok (.invokevirtual 118, 3) := by decide +kernel
theorem dX2_teach_20 : decode cX2_teach 20 = .ok (.ifCond .ne 12, 3) := by decide +kernel
theorem dX2_teach_23 : decode cX2_teach 23 = .ok (.aload_n 2, 1) := by decide +kernel
theorem dX2_teach_24 : decode cX2_teach 24 = .ok (.iload 4, 2) := by decide +kernel
theorem dX2_teach_26 : decode cX2_teach 26 = .ok (.invokevirtual 115, 3) := by decide +kernel
theorem dX2_teach_29 : decode cX2_teach 29 = .ok (.ifCond .eq 5, 3) := by decide +kernel
theorem dX2_teach_32 : decode cX2_teach 32 = .ok (.iconst 0, 1) := by decide +kernel
theorem dX2_teach_33 : decode cX2_teach 33 = .ok (.ireturn, 1) := by decide +kernel
theorem dX2_teach_34 : decode cX2_teach 34 = .ok (.aload_n 2, 1) := by decide +kernel
theorem dX2_teach_35 : decode cX2_teach 35 = .ok (.getfield 121, 3) := by decide +kernel
theorem dX2_teach_38 : decode cX2_teach 38 = .ok (.iload 4, 2) := by decide +kernel
theorem dX2_teach_40 : decode cX2_teach 40 = .ok (.bipush 99, 2) := by decide +kernel
theorem dX2_teach_42 : decode cX2_teach 42 = .ok (.aload_n 2, 1) := by decide +kernel
theorem dX2_teach_43 : decode cX2_teach 43 = .ok (.getfield 121, 3) := by decide +kernel
theorem dX2_teach_46 : decode cX2_teach 46 = .ok (.iload 4, 2) := by decide +kernel
theorem dX2_teach_48 : decode cX2_teach 48 = .ok (.iaload, 1) := by decide +kernel
theorem dX2_teach_49 : decode cX2_teach 49 = .ok (.iconst 1, 1) := by decide +kernel
theorem dX2_teach_50 : decode cX2_teach 50 = .ok (.iadd, 1) := by decide +kernel
theorem dX2_teach_51 : decode cX2_teach 51 = .ok (.invokestatic 124, 3) := by decide +kernel
theorem dX2_teach_54 : decode cX2_teach 54 = .ok (.iastore, 1) := by decide +kernel
theorem dX2_teach_55 : decode cX2_teach 55 = .ok (.aload_n 2, 1) := by decide +kernel
theorem dX2_teach_56 : decode cX2_teach 56 = .ok (.getfield 121, 3) := by decide +kernel
theorem dX2_teach_59 : decode cX2_teach 59 = .ok (.iload 4, 2) := by decide +kernel
theorem dX2_teach_61 : decode cX2_teach 61 = .ok (.iaload, 1) := by decide +kernel
theorem dX2_teach_62 : decode cX2_teach 62 = .ok (.aload_n 0, 1) := by decide +kernel
theorem dX2_teach_63 : decode cX2_teach 63 = .ok (.aload_n 2, 1) := by decide +kernel
theorem dX2_teach_64 : decode cX2_teach 64 = .ok (.iload 4, 2) := by decide +kernel
theorem dX2_teach_66 : decode cX2_teach 66 = .ok (.invokevirtual 130, 3) := by decide +kernel
theorem dX2_teach_69 : decode cX2_teach 69 = .ok (.if_icmp .ge 5, 3) := by decide +kernel
theorem dX2_teach_72 : decode cX2_teach 72 = .ok (.iconst 0, 1) := by decide +kernel
theorem dX2_teach_73 : decode cX2_teach 73 = .ok (.ireturn, 1) := by decide +kernel
theorem dX2_teach_74 : decode cX2_teach 74 = .ok (.iload_n 3, 1) := by decide +kernel
theorem dX2_teach_75 : decode cX2_teach 75 = .ok (.ifCond .eq 21, 3) := by decide +kernel
theorem dX2_teach_78 : decode cX2_teach 78 = .ok (.aload_n 0, 1) := by decide +kernel
theorem dX2_teach_79 : decode cX2_teach 79 = .ok (.invokevirtual 134, 3) := by decide +kernel
theorem dX2_teach_82 : decode cX2_teach 82 = .ok (.bipush 16, 2) := by decide +kernel
theorem dX2_teach_84 : decode cX2_teach 84 = .ok (.irem, 1) := by decide +kernel
theorem dX2_teach_85 : decode cX2_teach 85 = .ok (.aload_n 0, 1) := by decide +kernel
theorem dX2_teach_86 : decode cX2_teach 86 = .ok (.getfield 30, 3) := by decide +kernel
theorem dX2_teach_89 : decode cX2_teach 89 = .ok (.if_icmp .ge 7, 3) := by decide +kernel
theorem dX2_teach_92 : decode cX2_teach 92 = .ok (.iconst 1, 1) := by decide +kernel
theorem dX2_teach_93 : decode cX2_teach 93 = .ok (.goto 4, 3) := by decide +kernel
theorem dX2_teach_96 : decode cX2_teach 96 = .ok (.iconst 0, 1) := by decide +kernel
theorem dX2_teach_97 : decode cX2_teach 97 = .ok (.istore 5, 2) := by decide +kernel
theorem dX2_teach_99 : decode cX2_teach 99 = .ok (.aload_n 2, 1) := by decide +kernel
theorem dX2_teach_100 : decode cX2_teach 100 = .ok (.iload 4, 2) := by decide +kernel
theorem dX2_teach_102 : decode cX2_teach 102 = .ok (.sipush 999, 3) := by decide +kernel
theorem dX2_teach_105 : decode cX2_teach 105 = .ok (.aload_n 1, 1) := by decide +kernel
theorem dX2_teach_106 : decode cX2_teach 106 = .ok (.iload 4, 2) := by decide +kernel
theorem dX2_teach_108 : decode cX2_teach 108 = .ok (.invokevirtual 137, 3) := by decide +kernel
theorem dX2_teach_111 : decode cX2_teach 111 = .ok (.iload 5, 2) := by decide +kernel
theorem dX2_teach_113 : decode cX2_teach 113 = .ok (.iadd, 1) := by decide +kernel
theorem dX2_teach_114 : decode cX2_teach 114 = .ok (.invokestatic 124, 3) := by decide +kernel
theorem dX2_teach_117 : decode cX2_teach 117 = .ok (.invokevirtual 141, 3) := by decide +kernel
theorem dX2_teach_120 : decode cX2_teach 120 = .ok (.iload 5, 2) := by decide +kernel
theorem dX2_teach_122 : decode cX2_teach 122 = .ok (.ireturn, 1) := by decide +kernel
theorem dX2_draw_0 : decode cX2_draw 0 = .ok (.aload_n 0, 1) := by decide +kernel
theorem dX2_draw_1 : decode cX2_draw 1 = .ok (.aload_n 0, 1) := by decide +kernel
theorem dX2_draw_2 : decode cX2_draw 2 = .ok (.getfield 34, 3) := by decide +kernel
theorem dX2_draw_5 : decode cX2_draw 5 = .ok (.ldc 144, 2) := by decide +kernel
theorem dX2_draw_7 : decode cX2_draw 7 = .ok (.imul, 1) := by decide +kernel
theorem dX2_draw_8 : decode cX2_draw 8 = .ok (.sipush 12345, 3) := by decide +kernel
theorem dX2_draw_11 : decode cX2_draw 11 = .ok (.iadd, 1) := by decide +kernel
theorem dX2_draw_12 : decode cX2_draw 12 = .ok (.putfield 34, 3) := by decide +kernel
theorem dX2_draw_15 : decode cX2_draw 15 = .ok (.aload_n 0, 1) := by decide +kernel
theorem dX2_draw_16 : decode cX2_draw 16 = .ok (.getfield 34, 3) := by decide +kernel
theorem dX2_draw_19 : decode cX2_draw 19 = .ok (.bipush 8, 2) := by decide +kernel
theorem dX2_draw_21 : decode cX2_draw 21 = .ok (.iushr, 1) := by decide +kernel
theorem dX2_draw_22 : decode cX2_draw 22 = .ok (.ireturn, 1) := by decide +kernel
theorem dX2_endDay_0 : decode cX2_endDay 0 = .ok (.iconst 0, 1) := by decide +kernel
theorem dX2_endDay_1 : decode cX2_endDay 1 = .ok (.istore_n 1, 1) := by decide +kernel
theorem dX2_endDay_2 : decode cX2_endDay 2 = .ok (.iload_n 1, 1) := by decide +kernel
theorem dX2_endDay_3 : decode cX2_endDay 3 = .ok (.iconst 4, 1) := by decide +kernel
theorem dX2_endDay_4 : decode cX2_endDay 4 = .ok (.if_icmp .ge 31, 3) := by decide +kernel
theorem dX2_endDay_7 : decode cX2_endDay 7 = .ok (.aload_n 0, 1) := by decide +kernel
theorem dX2_endDay_8 : decode cX2_endDay 8 = .ok (.getfield 26, 3) := by decide +kernel
theorem dX2_endDay_11 : decode cX2_endDay 11 = .ok (.iload_n 1, 1) := by decide +kernel
theorem dX2_endDay_12 : decode cX2_endDay 12 = .ok (.aaload, 1) := by decide +kernel
theorem dX2_endDay_13 : decode cX2_endDay 13 = .ok (.aload_n 0, 1) := by decide +kernel
theorem dX2_endDay_14 : decode cX2_endDay 14 = .ok (.aload_n 0, 1) := by decide +kernel
theorem dX2_endDay_15 : decode cX2_endDay 15 = .ok (.getfield 26, 3) := by decide +kernel
theorem dX2_endDay_18 : decode cX2_endDay 18 = .ok (.iload_n 1, 1) := by decide +kernel
theorem dX2_endDay_19 : decode cX2_endDay 19 = .ok (.aaload, 1) := by decide +kernel
theorem dX2_endDay_20 : decode cX2_endDay 20 = .ok (.getfield 145, 3) := by decide +kernel
theorem dX2_endDay_23 : decode cX2_endDay 23 = .ok (.invokevirtual 148, 3) := by decide +kernel
theorem dX2_endDay_26 : decode cX2_endDay 26 = .ok (.invokevirtual 151, 3) := by decide +kernel
theorem dX2_endDay_29 : decode cX2_endDay 29 = .ok (.iinc 1 1, 3) := by decide +kernel
theorem dX2_endDay_32 : decode cX2_endDay 32 = .ok (.goto (-30), 3) := by decide +kernel
theorem dX2_endDay_35 : decode cX2_endDay 35 = .ok (.aload_n 0, 1) := by decide +kernel
theorem dX2_endDay_36 : decode cX2_endDay 36 = .ok (.dup, 1) := by decide +kernel
theorem dX2_endDay_37 : decode cX2_endDay 37 = .ok (.getfield 64, 3) := by decide +kernel
theorem dX2_endDay_40 : decode cX2_endDay 40 = .ok (.iconst 1, 1) := by decide +kernel
theorem dX2_endDay_41 : decode cX2_endDay 41 = .ok (.iadd, 1) := by decide +kernel
theorem dX2_endDay_42 : decode cX2_endDay 42 = .ok (.putfield 64, 3) := by decide +kernel
theorem dX2_endDay_45 : decode cX2_endDay 45 = .ok (.return_, 1) := by decide +kernel
theorem dX2_needs_0 : decode cX2_needs 0 = .ok (.aload_n 1, 1) := by decide +kernel
theorem dX2_needs_1 : decode cX2_needs 1 = .ok (.getfield 155, 3) := by decide +kernel
theorem dX2_needs_4 : decode cX2_needs 4 = .ok (.tableswitch 101 1 6 #[40, 42, 101, 40, 101, 49], 40) := by decide +kernel
theorem dX2_needs_44 : decode cX2_needs 44 = .ok (.iconst 1, 1) := by decide +kernel
theorem dX2_needs_45 : decode cX2_needs 45 = .ok (.ireturn, 1) := by decide +kernel
theorem dX2_needs_46 : decode cX2_needs 46 = .ok (.iconst 2, 1) := by decide +kernel
theorem dX2_needs_47 : decode cX2_needs 47 = .ok (.aload_n 1, 1) := by decide +kernel
theorem dX2_needs_48 : decode cX2_needs 48 = .ok (.getfield 158, 3) := by decide +kernel
theorem dX2_needs_51 : decode cX2_needs 51 = .ok (.iadd, 1) := by decide +kernel
theorem dX2_needs_52 : decode cX2_needs 52 = .ok (.ireturn, 1) := by decide +kernel
theorem dX2_needs_53 : decode cX2_needs 53 = .ok (.aload_n 0, 1) := by decide +kernel
theorem dX2_needs_54 : decode cX2_needs 54 = .ok (.getfield 43, 3) := by decide +kernel
theorem dX2_needs_57 : decode cX2_needs 57 = .ok (.iconst 0, 1) := by decide +kernel
theorem dX2_needs_58 : decode cX2_needs 58 = .ok (.aaload, 1) := by decide +kernel
theorem dX2_needs_59 : decode cX2_needs 59 = .ok (.astore_n 3, 1) := by decide +kernel
theorem dX2_needs_60 : decode cX2_needs 60 = .ok (.aload_n 1, 1) := by decide +kernel
theorem dX2_needs_61 : decode cX2_needs 61 = .ok (.getfield 161, 3) := by decide +kernel
theorem dX2_needs_64 : decode cX2_needs 64 = .ok (.invokestatic 164, 3) := by decide +kernel
theorem dX2_needs_67 : decode cX2_needs 67 = .ok (.istore 4, 2) := by decide +kernel
theorem dX2_needs_69 : decode cX2_needs 69 = .ok (.aload_n 3, 1) := by decide +kernel
theorem dX2_needs_70 : decode cX2_needs 70 = .ok (.ifnonnull 10, 3) := by decide +kernel
theorem dX2_needs_73 : decode cX2_needs 73 = .ok (.aload_n 1, 1) := by decide +kernel
theorem dX2_needs_74 : decode cX2_needs 74 = .ok (.getfield 158, 3) := by decide +kernel
theorem dX2_needs_77 : decode cX2_needs 77 = .ok (.goto 14, 3) := by decide +kernel
theorem dX2_needs_80 : decode cX2_needs 80 = .ok (.aload_n 3, 1) := by decide +kernel
theorem dX2_needs_81 : decode cX2_needs 81 = .ok (.iload_n 2, 1) := by decide +kernel
theorem dX2_needs_82 : decode cX2_needs 82 = .ok (.iload 4, 2) := by decide +kernel
theorem dX2_needs_84 : decode cX2_needs 84 = .ok (.aload_n 1, 1) := by decide +kernel
theorem dX2_needs_85 : decode cX2_needs 85 = .ok (.getfield 158, 3) := by decide +kernel
theorem dX2_needs_88 : decode cX2_needs 88 = .ok (.invokevirtual 169, 3) := by decide +kernel
theorem dX2_needs_91 : decode cX2_needs 91 = .ok (.istore 5, 2) := by decide +kernel
theorem dX2_needs_93 : decode cX2_needs 93 = .ok (.iconst 1, 1) := by decide +kernel
theorem dX2_needs_94 : decode cX2_needs 94 = .ok (.bipush 99, 2) := by decide +kernel
theorem dX2_needs_96 : decode cX2_needs 96 = .ok (.iload 5, 2) := by decide +kernel
theorem dX2_needs_98 : decode cX2_needs 98 = .ok (.invokestatic 124, 3) := by decide +kernel
theorem dX2_needs_101 : decode cX2_needs 101 = .ok (.invokestatic 173, 3) := by decide +kernel
theorem dX2_needs_104 : decode cX2_needs 104 = .ok (.ireturn, 1) := by decide +kernel
theorem dX2_needs_105 : decode cX2_needs 105 = .ok (.iconst 2, 1) := by decide +kernel
theorem dX2_needs_106 : decode cX2_needs 106 = .ok (.ireturn, 1) := by decide +kernel
theorem dX2_pay_0 : decode cX2_pay 0 = .ok (.aload_n 1, 1) := by decide +kernel
theorem dX2_pay_1 : decode cX2_pay 1 = .ok (.getfield 161, 3) := by decide +kernel
theorem dX2_pay_4 : decode cX2_pay 4 = .ok (.invokestatic 164, 3) := by decide +kernel
theorem dX2_pay_7 : decode cX2_pay 7 = .ok (.istore_n 2, 1) := by decide +kernel
theorem dX2_pay_8 : decode cX2_pay 8 = .ok (.aload_n 0, 1) := by decide +kernel
theorem dX2_pay_9 : decode cX2_pay 9 = .ok (.getfield 43, 3) := by decide +kernel
theorem dX2_pay_12 : decode cX2_pay 12 = .ok (.iconst 1, 1) := by decide +kernel
theorem dX2_pay_13 : decode cX2_pay 13 = .ok (.aaload, 1) := by decide +kernel
theorem dX2_pay_14 : decode cX2_pay 14 = .ok (.astore_n 3, 1) := by decide +kernel
theorem dX2_pay_15 : decode cX2_pay 15 = .ok (.aload_n 3, 1) := by decide +kernel
theorem dX2_pay_16 : decode cX2_pay 16 = .ok (.ifnonnull 7, 3) := by decide +kernel
theorem dX2_pay_19 : decode cX2_pay 19 = .ok (.iconst 1, 1) := by decide +kernel
theorem dX2_pay_20 : decode cX2_pay 20 = .ok (.iload_n 2, 1) := by decide +kernel
theorem dX2_pay_21 : decode cX2_pay 21 = .ok (.iadd, 1) := by decide +kernel
theorem dX2_pay_22 : decode cX2_pay 22 = .ok (.ireturn, 1) := by decide +kernel
theorem dX2_pay_23 : decode cX2_pay 23 = .ok (.aload_n 1, 1) := by decide +kernel
theorem dX2_pay_24 : decode cX2_pay 24 = .ok (.getfield 176, 3) := by decide +kernel
theorem dX2_pay_27 : decode cX2_pay 27 = .ok (.ifCond .ge 7, 3) := by decide +kernel
theorem dX2_pay_30 : decode cX2_pay 30 = .ok (.iconst 0, 1) := by decide +kernel
theorem dX2_pay_31 : decode cX2_pay 31 = .ok (.goto 12, 3) := by decide +kernel
theorem dX2_pay_34 : decode cX2_pay 34 = .ok (.aload_n 0, 1) := by decide +kernel
theorem dX2_pay_35 : decode cX2_pay 35 = .ok (.getfield 64, 3) := by decide +kernel
theorem dX2_pay_38 : decode cX2_pay 38 = .ok (.aload_n 1, 1) := by decide +kernel
theorem dX2_pay_39 : decode cX2_pay 39 = .ok (.getfield 176, 3) := by decide +kernel
theorem dX2_pay_42 : decode cX2_pay 42 = .ok (.isub, 1) := by decide +kernel
theorem dX2_pay_43 : decode cX2_pay 43 = .ok (.istore 4, 2) := by decide +kernel
theorem dX2_pay_45 : decode cX2_pay 45 = .ok (.iconst 0, 1) := by decide +kernel
theorem dX2_pay_46 : decode cX2_pay 46 = .ok (.sipush 999, 3) := by decide +kernel
theorem dX2_pay_49 : decode cX2_pay 49 = .ok (.aload_n 3, 1) := by decide +kernel
theorem dX2_pay_50 : decode cX2_pay 50 = .ok (.aload_n 1, 1) := by decide +kernel
theorem dX2_pay_51 : decode cX2_pay 51 = .ok (.getfield 155, 3) := by decide +kernel
theorem dX2_pay_54 : decode cX2_pay 54 = .ok (.iload_n 2, 1) := by decide +kernel
theorem dX2_pay_55 : decode cX2_pay 55 = .ok (.iload 4, 2) := by decide +kernel
theorem dX2_pay_57 : decode cX2_pay 57 = .ok (.invokevirtual 169, 3) := by decide +kernel
theorem dX2_pay_60 : decode cX2_pay 60 = .ok (.invokestatic 124, 3) := by decide +kernel
theorem dX2_pay_63 : decode cX2_pay 63 = .ok (.invokestatic 173, 3) := by decide +kernel
theorem dX2_pay_66 : decode cX2_pay 66 = .ok (.ireturn, 1) := by decide +kernel
theorem dX2_payOfAll_0 : decode cX2_payOfAll 0 = .ok (.iconst 0, 1) := by decide +kernel
theorem dX2_payOfAll_1 : decode cX2_payOfAll 1 = .ok (.istore_n 1, 1) := by decide +kernel
theorem dX2_payOfAll_2 : decode cX2_payOfAll 2 = .ok (.iconst 0, 1) := by decide +kernel
theorem dX2_payOfAll_3 : decode cX2_payOfAll 3 = .ok (.istore_n 2, 1) := by decide +kernel
theorem dX2_payOfAll_4 : decode cX2_payOfAll 4 = .ok (.iload_n 2, 1) := by decide +kernel
theorem dX2_payOfAll_5 : decode cX2_payOfAll 5 = .ok (.aload_n 0, 1) := by decide +kernel
theorem dX2_payOfAll_6 : decode cX2_payOfAll 6 = .ok (.getfield 52, 3) := by decide +kernel
theorem dX2_payOfAll_9 : decode cX2_payOfAll 9 = .ok (.if_icmp .ge 22, 3) := by decide +kernel
theorem dX2_payOfAll_12 : decode cX2_payOfAll 12 = .ok (.iload_n 1, 1) := by decide +kernel
theorem dX2_payOfAll_13 : decode cX2_payOfAll 13 = .ok (.aload_n 0, 1) := by decide +kernel
theorem dX2_payOfAll_14 : decode cX2_payOfAll 14 = .ok (.aload_n 0, 1) := by decide +kernel
theorem dX2_payOfAll_15 : decode cX2_payOfAll 15 = .ok (.getfield 11, 3) := by decide +kernel
theorem dX2_payOfAll_18 : decode cX2_payOfAll 18 = .ok (.iload_n 2, 1) := by decide +kernel
theorem dX2_payOfAll_19 : decode cX2_payOfAll 19 = .ok (.aaload, 1) := by decide +kernel
theorem dX2_payOfAll_20 : decode cX2_payOfAll 20 = .ok (.invokevirtual 179, 3) := by decide +kernel
theorem dX2_payOfAll_23 : decode cX2_payOfAll 23 = .ok (.iadd, 1) := by decide +kernel
theorem dX2_payOfAll_24 : decode cX2_payOfAll 24 = .ok (.istore_n 1, 1) := by decide +kernel
theorem dX2_payOfAll_25 : decode cX2_payOfAll 25 = .ok (.iinc 2 1, 3) := by decide +kernel
theorem dX2_payOfAll_28 : decode cX2_payOfAll 28 = .ok (.goto (-24), 3) := by decide +kernel
theorem dX2_payOfAll_31 : decode cX2_payOfAll 31 = .ok (.iload_n 1, 1) := by decide +kernel
theorem dX2_payOfAll_32 : decode cX2_payOfAll 32 = .ok (.ireturn, 1) := by decide +kernel
theorem dX2_doneOfAll_0 : decode cX2_doneOfAll 0 = .ok (.iconst 0, 1) := by decide +kernel
theorem dX2_doneOfAll_1 : decode cX2_doneOfAll 1 = .ok (.istore_n 1, 1) := by decide +kernel
theorem dX2_doneOfAll_2 : decode cX2_doneOfAll 2 = .ok (.iconst 0, 1) := by decide +kernel
theorem dX2_doneOfAll_3 : decode cX2_doneOfAll 3 = .ok (.istore_n 2, 1) := by decide +kernel
theorem dX2_doneOfAll_4 : decode cX2_doneOfAll 4 = .ok (.iload_n 2, 1) := by decide +kernel
theorem dX2_doneOfAll_5 : decode cX2_doneOfAll 5 = .ok (.iconst 4, 1) := by decide +kernel
theorem dX2_doneOfAll_6 : decode cX2_doneOfAll 6 = .ok (.if_icmp .ge 21, 3) := by decide +kernel
theorem dX2_doneOfAll_9 : decode cX2_doneOfAll 9 = .ok (.iload_n 1, 1) := by decide +kernel
theorem dX2_doneOfAll_10 : decode cX2_doneOfAll 10 = .ok (.aload_n 0, 1) := by decide +kernel
theorem dX2_doneOfAll_11 : decode cX2_doneOfAll 11 = .ok (.getfield 26, 3) := by decide +kernel
theorem dX2_doneOfAll_14 : decode cX2_doneOfAll 14 = .ok (.iload_n 2, 1) := by decide +kernel
theorem dX2_doneOfAll_15 : decode cX2_doneOfAll 15 = .ok (.aaload, 1) := by decide +kernel
theorem dX2_doneOfAll_16 : decode cX2_doneOfAll 16 = .ok (.getfield 183, 3) := by decide +kernel
theorem dX2_doneOfAll_19 : decode cX2_doneOfAll 19 = .ok (.iadd, 1) := by decide +kernel
theorem dX2_doneOfAll_20 : decode cX2_doneOfAll 20 = .ok (.istore_n 1, 1) := by decide +kernel
theorem dX2_doneOfAll_21 : decode cX2_doneOfAll 21 = .ok (.iinc 2 1, 3) := by decide +kernel
theorem dX2_doneOfAll_24 : decode cX2_doneOfAll 24 = .ok (.goto (-20), 3) := by decide +kernel
theorem dX2_doneOfAll_27 : decode cX2_doneOfAll 27 = .ok (.iload_n 1, 1) := by decide +kernel
theorem dX2_doneOfAll_28 : decode cX2_doneOfAll 28 = .ok (.ireturn, 1) := by decide +kernel
theorem dX2_knowers_0 : decode cX2_knowers 0 = .ok (.iconst 0, 1) := by decide +kernel
theorem dX2_knowers_1 : decode cX2_knowers 1 = .ok (.istore_n 2, 1) := by decide +kernel
theorem dX2_knowers_2 : decode cX2_knowers 2 = .ok (.iconst 0, 1) := by decide +kernel
theorem dX2_knowers_3 : decode cX2_knowers 3 = .ok (.istore_n 3, 1) := by decide +kernel
theorem dX2_knowers_4 : decode cX2_knowers 4 = .ok (.iload_n 3, 1) := by decide +kernel
theorem dX2_knowers_5 : decode cX2_knowers 5 = .ok (.aload_n 0, 1) := by decide +kernel
theorem dX2_knowers_6 : decode cX2_knowers 6 = .ok (.getfield 52, 3) := by decide +kernel
theorem dX2_knowers_9 : decode cX2_knowers 9 = .ok (.if_icmp .ge 30, 3) := by decide +kernel
theorem dX2_knowers_12 : decode cX2_knowers 12 = .ok (.iload_n 2, 1) := by decide +kernel
theorem dX2_knowers_13 : decode cX2_knowers 13 = .ok (.aload_n 0, 1) := by decide +kernel
theorem dX2_knowers_14 : decode cX2_knowers 14 = .ok (.getfield 11, 3) := by decide +kernel
theorem dX2_knowers_17 : decode cX2_knowers 17 = .ok (.iload_n 3, 1) := by decide +kernel
theorem dX2_knowers_18 : decode cX2_knowers 18 = .ok (.aaload, 1) := by decide +kernel
theorem dX2_knowers_19 : decode cX2_knowers 19 = .ok (.iload_n 1, 1) := by decide +kernel
theorem dX2_knowers_20 : decode cX2_knowers 20 = .ok (.invokevirtual 115, 3) := by decide +kernel
theorem dX2_knowers_23 : decode cX2_knowers 23 = .ok (.ifCond .eq 7, 3) := by decide +kernel
theorem dX2_knowers_26 : decode cX2_knowers 26 = .ok (.iconst 1, 1) := by decide +kernel
theorem dX2_knowers_27 : decode cX2_knowers 27 = .ok (.goto 4, 3) := by decide +kernel
theorem dX2_knowers_30 : decode cX2_knowers 30 = .ok (.iconst 0, 1) := by decide +kernel
theorem dX2_knowers_31 : decode cX2_knowers 31 = .ok (.iadd, 1) := by decide +kernel
theorem dX2_knowers_32 : decode cX2_knowers 32 = .ok (.istore_n 2, 1) := by decide +kernel
theorem dX2_knowers_33 : decode cX2_knowers 33 = .ok (.iinc 3 1, 3) := by decide +kernel
theorem dX2_knowers_36 : decode cX2_knowers 36 = .ok (.goto (-32), 3) := by decide +kernel
theorem dX2_knowers_39 : decode cX2_knowers 39 = .ok (.iload_n 2, 1) := by decide +kernel
theorem dX2_knowers_40 : decode cX2_knowers 40 = .ok (.ireturn, 1) := by decide +kernel
theorem dX2_knownByAny_0 : decode cX2_knownByAny 0 = .ok (.iconst 0, 1) := by decide +kernel
theorem dX2_knownByAny_1 : decode cX2_knownByAny 1 = .ok (.istore_n 1, 1) := by decide +kernel
theorem dX2_knownByAny_2 : decode cX2_knownByAny 2 = .ok (.iconst 0, 1) := by decide +kernel
theorem dX2_knownByAny_3 : decode cX2_knownByAny 3 = .ok (.istore_n 2, 1) := by decide +kernel
theorem dX2_knownByAny_4 : decode cX2_knownByAny 4 = .ok (.iload_n 2, 1) := by decide +kernel
theorem dX2_knownByAny_5 : decode cX2_knownByAny 5 = .ok (.aload_n 0, 1) := by decide +kernel
theorem dX2_knownByAny_6 : decode cX2_knownByAny 6 = .ok (.getfield 52, 3) := by decide +kernel
theorem dX2_knownByAny_9 : decode cX2_knownByAny 9 = .ok (.if_icmp .ge 21, 3) := by decide +kernel
theorem dX2_knownByAny_12 : decode cX2_knownByAny 12 = .ok (.iload_n 1, 1) := by decide +kernel
theorem dX2_knownByAny_13 : decode cX2_knownByAny 13 = .ok (.aload_n 0, 1) := by decide +kernel
theorem dX2_knownByAny_14 : decode cX2_knownByAny 14 = .ok (.getfield 11, 3) := by decide +kernel
theorem dX2_knownByAny_17 : decode cX2_knownByAny 17 = .ok (.iload_n 2, 1) := by decide +kernel
theorem dX2_knownByAny_18 : decode cX2_knownByAny 18 = .ok (.aaload, 1) := by decide +kernel
theorem dX2_knownByAny_19 : decode cX2_knownByAny 19 = .ok (.getfield 161, 3) := by decide +kernel
theorem dX2_knownByAny_22 : decode cX2_knownByAny 22 = .ok (.ior, 1) := by decide +kernel
theorem dX2_knownByAny_23 : decode cX2_knownByAny 23 = .ok (.istore_n 1, 1) := by decide +kernel
theorem dX2_knownByAny_24 : decode cX2_knownByAny 24 = .ok (.iinc 2 1, 3) := by decide +kernel
theorem dX2_knownByAny_27 : decode cX2_knownByAny 27 = .ok (.goto (-23), 3) := by decide +kernel
theorem dX2_knownByAny_30 : decode cX2_knownByAny 30 = .ok (.iload_n 1, 1) := by decide +kernel
theorem dX2_knownByAny_31 : decode cX2_knownByAny 31 = .ok (.ireturn, 1) := by decide +kernel
theorem dX2_canSpare_0 : decode cX2_canSpare 0 = .ok (.iconst 0, 1) := by decide +kernel
theorem dX2_canSpare_1 : decode cX2_canSpare 1 = .ok (.istore_n 3, 1) := by decide +kernel
theorem dX2_canSpare_2 : decode cX2_canSpare 2 = .ok (.iload_n 3, 1) := by decide +kernel
theorem dX2_canSpare_3 : decode cX2_canSpare 3 = .ok (.iconst 4, 1) := by decide +kernel
theorem dX2_canSpare_4 : decode cX2_canSpare 4 = .ok (.if_icmp .ge 96, 3) := by decide +kernel
theorem dX2_canSpare_7 : decode cX2_canSpare 7 = .ok (.aload_n 0, 1) := by decide +kernel
theorem dX2_canSpare_8 : decode cX2_canSpare 8 = .ok (.getfield 26, 3) := by decide +kernel
theorem dX2_canSpare_11 : decode cX2_canSpare 11 = .ok (.iload_n 3, 1) := by decide +kernel
theorem dX2_canSpare_12 : decode cX2_canSpare 12 = .ok (.aaload, 1) := by decide +kernel
theorem dX2_canSpare_13 : decode cX2_canSpare 13 = .ok (.getfield 145, 3) := by decide +kernel
theorem dX2_canSpare_16 : decode cX2_canSpare 16 = .ok (.istore 4, 2) := by decide +kernel
theorem dX2_canSpare_18 : decode cX2_canSpare 18 = .ok (.aload_n 0, 1) := by decide +kernel
theorem dX2_canSpare_19 : decode cX2_canSpare 19 = .ok (.getfield 11, 3) := by decide +kernel
theorem dX2_canSpare_22 : decode cX2_canSpare 22 = .ok (.iload_n 1, 1) := by decide +kernel
theorem dX2_canSpare_23 : decode cX2_canSpare 23 = .ok (.aaload, 1) := by decide +kernel
theorem dX2_canSpare_24 : decode cX2_canSpare 24 = .ok (.iload 4, 2) := by decide +kernel
theorem dX2_canSpare_26 : decode cX2_canSpare 26 = .ok (.invokevirtual 115, 3) := by decide +kernel
theorem dX2_canSpare_29 : decode cX2_canSpare 29 = .ok (.ifCond .eq 7, 3) := by decide +kernel
theorem dX2_canSpare_32 : decode cX2_canSpare 32 = .ok (.iconst 1, 1) := by decide +kernel
theorem dX2_canSpare_33 : decode cX2_canSpare 33 = .ok (.goto 4, 3) := by decide +kernel
theorem dX2_canSpare_36 : decode cX2_canSpare 36 = .ok (.iconst 0, 1) := by decide +kernel
theorem dX2_canSpare_37 : decode cX2_canSpare 37 = .ok (.aload_n 0, 1) := by decide +kernel
theorem dX2_canSpare_38 : decode cX2_canSpare 38 = .ok (.getfield 11, 3) := by decide +kernel
theorem dX2_canSpare_41 : decode cX2_canSpare 41 = .ok (.iload_n 2, 1) := by decide +kernel
theorem dX2_canSpare_42 : decode cX2_canSpare 42 = .ok (.aaload, 1) := by decide +kernel
theorem dX2_canSpare_43 : decode cX2_canSpare 43 = .ok (.iload 4, 2) := by decide +kernel
theorem dX2_canSpare_45 : decode cX2_canSpare 45 = .ok (.invokevirtual 115, 3) := by decide +kernel
theorem dX2_canSpare_48 : decode cX2_canSpare 48 = .ok (.ifCond .eq 7, 3) := by decide +kernel
theorem dX2_canSpare_51 : decode cX2_canSpare 51 = .ok (.iconst 1, 1) := by decide +kernel
theorem dX2_canSpare_52 : decode cX2_canSpare 52 = .ok (.goto 4, 3) := by decide +kernel
theorem dX2_canSpare_55 : decode cX2_canSpare 55 = .ok (.iconst 0, 1) := by decide +kernel
theorem dX2_canSpare_56 : decode cX2_canSpare 56 = .ok (.iadd, 1) := by decide +kernel
theorem dX2_canSpare_57 : decode cX2_canSpare 57 = .ok (.istore 5, 2) := by decide +kernel
theorem dX2_canSpare_59 : decode cX2_canSpare 59 = .ok (.aload_n 0, 1) := by decide +kernel
theorem dX2_canSpare_60 : decode cX2_canSpare 60 = .ok (.getfield 26, 3) := by decide +kernel
theorem dX2_canSpare_63 : decode cX2_canSpare 63 = .ok (.iload_n 3, 1) := by decide +kernel
theorem dX2_canSpare_64 : decode cX2_canSpare 64 = .ok (.aaload, 1) := by decide +kernel
theorem dX2_canSpare_65 : decode cX2_canSpare 65 = .ok (.getfield 186, 3) := by decide +kernel
theorem dX2_canSpare_68 : decode cX2_canSpare 68 = .ok (.ifCond .le 26, 3) := by decide +kernel
theorem dX2_canSpare_71 : decode cX2_canSpare 71 = .ok (.aload_n 0, 1) := by decide +kernel
theorem dX2_canSpare_72 : decode cX2_canSpare 72 = .ok (.iload 4, 2) := by decide +kernel
theorem dX2_canSpare_74 : decode cX2_canSpare 74 = .ok (.invokevirtual 148, 3) := by decide +kernel
theorem dX2_canSpare_77 : decode cX2_canSpare 77 = .ok (.iload 5, 2) := by decide +kernel
theorem dX2_canSpare_79 : decode cX2_canSpare 79 = .ok (.isub, 1) := by decide +kernel
theorem dX2_canSpare_80 : decode cX2_canSpare 80 = .ok (.aload_n 0, 1) := by decide +kernel
theorem dX2_canSpare_81 : decode cX2_canSpare 81 = .ok (.getfield 26, 3) := by decide +kernel
theorem dX2_canSpare_84 : decode cX2_canSpare 84 = .ok (.iload_n 3, 1) := by decide +kernel
theorem dX2_canSpare_85 : decode cX2_canSpare 85 = .ok (.aaload, 1) := by decide +kernel
theorem dX2_canSpare_86 : decode cX2_canSpare 86 = .ok (.getfield 186, 3) := by decide +kernel
theorem dX2_canSpare_89 : decode cX2_canSpare 89 = .ok (.if_icmp .ge 5, 3) := by decide +kernel
theorem dX2_canSpare_92 : decode cX2_canSpare 92 = .ok (.iconst 0, 1) := by decide +kernel
theorem dX2_canSpare_93 : decode cX2_canSpare 93 = .ok (.ireturn, 1) := by decide +kernel
theorem dX2_canSpare_94 : decode cX2_canSpare 94 = .ok (.iinc 3 1, 3) := by decide +kernel
theorem dX2_canSpare_97 : decode cX2_canSpare 97 = .ok (.goto (-95), 3) := by decide +kernel
theorem dX2_canSpare_100 : decode cX2_canSpare 100 = .ok (.iconst 1, 1) := by decide +kernel
theorem dX2_canSpare_101 : decode cX2_canSpare 101 = .ok (.ireturn, 1) := by decide +kernel
theorem dX2_ofMan_0 : decode cX2_ofMan 0 = .ok (.aload_n 0, 1) := by decide +kernel
theorem dX2_ofMan_1 : decode cX2_ofMan 1 = .ok (.getfield 11, 3) := by decide +kernel
theorem dX2_ofMan_4 : decode cX2_ofMan 4 = .ok (.iload_n 1, 1) := by decide +kernel
theorem dX2_ofMan_5 : decode cX2_ofMan 5 = .ok (.aaload, 1) := by decide +kernel
theorem dX2_ofMan_6 : decode cX2_ofMan 6 = .ok (.astore_n 3, 1) := by decide +kernel
theorem dX2_ofMan_7 : decode cX2_ofMan 7 = .ok (.iload_n 2, 1) := by decide +kernel
theorem dX2_ofMan_8 : decode cX2_ofMan 8 = .ok (.tableswitch 71 0 5 #[40, 45, 50, 55, 60, 65], 40) := by decide +kernel
theorem dX2_ofMan_48 : decode cX2_ofMan 48 = .ok (.aload_n 3, 1) := by decide +kernel
theorem dX2_ofMan_49 : decode cX2_ofMan 49 = .ok (.getfield 155, 3) := by decide +kernel
theorem dX2_ofMan_52 : decode cX2_ofMan 52 = .ok (.ireturn, 1) := by decide +kernel
theorem dX2_ofMan_53 : decode cX2_ofMan 53 = .ok (.aload_n 3, 1) := by decide +kernel
theorem dX2_ofMan_54 : decode cX2_ofMan 54 = .ok (.getfield 158, 3) := by decide +kernel
theorem dX2_ofMan_57 : decode cX2_ofMan 57 = .ok (.ireturn, 1) := by decide +kernel
theorem dX2_ofMan_58 : decode cX2_ofMan 58 = .ok (.aload_n 3, 1) := by decide +kernel
theorem dX2_ofMan_59 : decode cX2_ofMan 59 = .ok (.getfield 176, 3) := by decide +kernel
theorem dX2_ofMan_62 : decode cX2_ofMan 62 = .ok (.ireturn, 1) := by decide +kernel
theorem dX2_ofMan_63 : decode cX2_ofMan 63 = .ok (.aload_n 3, 1) := by decide +kernel
theorem dX2_ofMan_64 : decode cX2_ofMan 64 = .ok (.getfield 161, 3) := by decide +kernel
theorem dX2_ofMan_67 : decode cX2_ofMan 67 = .ok (.ireturn, 1) := by decide +kernel
theorem dX2_ofMan_68 : decode cX2_ofMan 68 = .ok (.aload_n 3, 1) := by decide +kernel
theorem dX2_ofMan_69 : decode cX2_ofMan 69 = .ok (.getfield 90, 3) := by decide +kernel
theorem dX2_ofMan_72 : decode cX2_ofMan 72 = .ok (.ireturn, 1) := by decide +kernel
theorem dX2_ofMan_73 : decode cX2_ofMan 73 = .ok (.aload_n 0, 1) := by decide +kernel
theorem dX2_ofMan_74 : decode cX2_ofMan 74 = .ok (.aload_n 3, 1) := by decide +kernel
theorem dX2_ofMan_75 : decode cX2_ofMan 75 = .ok (.invokevirtual 179, 3) := by decide +kernel
theorem dX2_ofMan_78 : decode cX2_ofMan 78 = .ok (.ireturn, 1) := by decide +kernel
theorem dX2_ofMan_79 : decode cX2_ofMan 79 = .ok (.aload_n 0, 1) := by decide +kernel
theorem dX2_ofMan_80 : decode cX2_ofMan 80 = .ok (.aload_n 3, 1) := by decide +kernel
theorem dX2_ofMan_81 : decode cX2_ofMan 81 = .ok (.iload_n 2, 1) := by decide +kernel
theorem dX2_ofMan_82 : decode cX2_ofMan 82 = .ok (.bipush 6, 2) := by decide +kernel
theorem dX2_ofMan_84 : decode cX2_ofMan 84 = .ok (.idiv, 1) := by decide +kernel
theorem dX2_ofMan_85 : decode cX2_ofMan 85 = .ok (.iload_n 2, 1) := by decide +kernel
theorem dX2_ofMan_86 : decode cX2_ofMan 86 = .ok (.bipush 6, 2) := by decide +kernel
theorem dX2_ofMan_88 : decode cX2_ofMan 88 = .ok (.irem, 1) := by decide +kernel
theorem dX2_ofMan_89 : decode cX2_ofMan 89 = .ok (.invokevirtual 189, 3) := by decide +kernel
theorem dX2_ofMan_92 : decode cX2_ofMan 92 = .ok (.ireturn, 1) := by decide +kernel
theorem dX2_ofKnack_0 : decode cX2_ofKnack 0 = .ok (.iload_n 2, 1) := by decide +kernel
theorem dX2_ofKnack_1 : decode cX2_ofKnack 1 = .ok (.lookupswitch 41 #[(1, 27), (2, 34)], 27) := by decide +kernel
theorem dX2_ofKnack_28 : decode cX2_ofKnack 28 = .ok (.aload_n 1, 1) := by decide +kernel
theorem dX2_ofKnack_29 : decode cX2_ofKnack 29 = .ok (.getfield 193, 3) := by decide +kernel
theorem dX2_ofKnack_32 : decode cX2_ofKnack 32 = .ok (.iload_n 3, 1) := by decide +kernel
theorem dX2_ofKnack_33 : decode cX2_ofKnack 33 = .ok (.iaload, 1) := by decide +kernel
theorem dX2_ofKnack_34 : decode cX2_ofKnack 34 = .ok (.ireturn, 1) := by decide +kernel
theorem dX2_ofKnack_35 : decode cX2_ofKnack 35 = .ok (.aload_n 1, 1) := by decide +kernel
theorem dX2_ofKnack_36 : decode cX2_ofKnack 36 = .ok (.getfield 121, 3) := by decide +kernel
theorem dX2_ofKnack_39 : decode cX2_ofKnack 39 = .ok (.iload_n 3, 1) := by decide +kernel
theorem dX2_ofKnack_40 : decode cX2_ofKnack 40 = .ok (.iaload, 1) := by decide +kernel
theorem dX2_ofKnack_41 : decode cX2_ofKnack 41 = .ok (.ireturn, 1) := by decide +kernel
theorem dX2_ofKnack_42 : decode cX2_ofKnack 42 = .ok (.aload_n 0, 1) := by decide +kernel
theorem dX2_ofKnack_43 : decode cX2_ofKnack 43 = .ok (.aload_n 1, 1) := by decide +kernel
theorem dX2_ofKnack_44 : decode cX2_ofKnack 44 = .ok (.iload_n 3, 1) := by decide +kernel
theorem dX2_ofKnack_45 : decode cX2_ofKnack 45 = .ok (.invokevirtual 130, 3) := by decide +kernel
theorem dX2_ofKnack_48 : decode cX2_ofKnack 48 = .ok (.ireturn, 1) := by decide +kernel
theorem dX2_ofTask_0 : decode cX2_ofTask 0 = .ok (.aload_n 0, 1) := by decide +kernel
theorem dX2_ofTask_1 : decode cX2_ofTask 1 = .ok (.getfield 26, 3) := by decide +kernel
theorem dX2_ofTask_4 : decode cX2_ofTask 4 = .ok (.iload_n 1, 1) := by decide +kernel
theorem dX2_ofTask_5 : decode cX2_ofTask 5 = .ok (.aaload, 1) := by decide +kernel
theorem dX2_ofTask_6 : decode cX2_ofTask 6 = .ok (.astore_n 3, 1) := by decide +kernel
theorem dX2_ofTask_7 : decode cX2_ofTask 7 = .ok (.iload_n 2, 1) := by decide +kernel
theorem dX2_ofTask_8 : decode cX2_ofTask 8 = .ok (.tableswitch 56 0 3 #[32, 37, 42, 51], 32) := by decide +kernel
theorem dX2_ofTask_40 : decode cX2_ofTask 40 = .ok (.aload_n 3, 1) := by decide +kernel
theorem dX2_ofTask_41 : decode cX2_ofTask 41 = .ok (.getfield 145, 3) := by decide +kernel
theorem dX2_ofTask_44 : decode cX2_ofTask 44 = .ok (.ireturn, 1) := by decide +kernel
theorem dX2_ofTask_45 : decode cX2_ofTask 45 = .ok (.aload_n 3, 1) := by decide +kernel
theorem dX2_ofTask_46 : decode cX2_ofTask 46 = .ok (.getfield 186, 3) := by decide +kernel
theorem dX2_ofTask_49 : decode cX2_ofTask 49 = .ok (.ireturn, 1) := by decide +kernel
theorem dX2_ofTask_50 : decode cX2_ofTask 50 = .ok (.aload_n 0, 1) := by decide +kernel
theorem dX2_ofTask_51 : decode cX2_ofTask 51 = .ok (.aload_n 3, 1) := by decide +kernel
theorem dX2_ofTask_52 : decode cX2_ofTask 52 = .ok (.getfield 145, 3) := by decide +kernel
theorem dX2_ofTask_55 : decode cX2_ofTask 55 = .ok (.invokevirtual 148, 3) := by decide +kernel
theorem dX2_ofTask_58 : decode cX2_ofTask 58 = .ok (.ireturn, 1) := by decide +kernel
theorem dX2_ofTask_59 : decode cX2_ofTask 59 = .ok (.aload_n 3, 1) := by decide +kernel
theorem dX2_ofTask_60 : decode cX2_ofTask 60 = .ok (.getfield 183, 3) := by decide +kernel
theorem dX2_ofTask_63 : decode cX2_ofTask 63 = .ok (.ireturn, 1) := by decide +kernel
theorem dX2_ofTask_64 : decode cX2_ofTask 64 = .ok (.aload_n 3, 1) := by decide +kernel
theorem dX2_ofTask_65 : decode cX2_ofTask 65 = .ok (.getfield 196, 3) := by decide +kernel
theorem dX2_ofTask_68 : decode cX2_ofTask 68 = .ok (.ireturn, 1) := by decide +kernel
theorem dX3_init_0 : decode cX3_init 0 = .ok (.aload_n 0, 1) := by decide +kernel
theorem dX3_init_1 : decode cX3_init 1 = .ok (.invokespecial 3, 3) := by decide +kernel
theorem dX3_init_4 : decode cX3_init 4 = .ok (.return_, 1) := by decide +kernel
theorem dX3_copyFrom_0 : decode cX3_copyFrom 0 = .ok (.aload_n 0, 1) := by decide +kernel
theorem dX3_copyFrom_1 : decode cX3_copyFrom 1 = .ok (.aload_n 1, 1) := by decide +kernel
theorem dX3_copyFrom_2 : decode cX3_copyFrom 2 = .ok (.getfield 9, 3) := by decide +kernel
theorem dX3_copyFrom_5 : decode cX3_copyFrom 5 = .ok (.putfield 9, 3) := by decide +kernel
theorem dX3_copyFrom_8 : decode cX3_copyFrom 8 = .ok (.aload_n 0, 1) := by decide +kernel
theorem dX3_copyFrom_9 : decode cX3_copyFrom 9 = .ok (.aload_n 1, 1) := by decide +kernel
theorem dX3_copyFrom_10 : decode cX3_copyFrom 10 = .ok (.getfield 15, 3) := by decide +kernel
theorem dX3_copyFrom_13 : decode cX3_copyFrom 13 = .ok (.putfield 15, 3) := by decide +kernel
theorem dX3_copyFrom_16 : decode cX3_copyFrom 16 = .ok (.aload_n 0, 1) := by decide +kernel
theorem dX3_copyFrom_17 : decode cX3_copyFrom 17 = .ok (.aload_n 1, 1) := by decide +kernel
theorem dX3_copyFrom_18 : decode cX3_copyFrom 18 = .ok (.getfield 18, 3) := by decide +kernel
theorem dX3_copyFrom_21 : decode cX3_copyFrom 21 = .ok (.putfield 18, 3) := by decide +kernel
theorem dX3_copyFrom_24 : decode cX3_copyFrom 24 = .ok (.aload_n 0, 1) := by decide +kernel
theorem dX3_copyFrom_25 : decode cX3_copyFrom 25 = .ok (.aload_n 1, 1) := by decide +kernel
theorem dX3_copyFrom_26 : decode cX3_copyFrom 26 = .ok (.getfield 21, 3) := by decide +kernel
theorem dX3_copyFrom_29 : decode cX3_copyFrom 29 = .ok (.putfield 21, 3) := by decide +kernel
theorem dX3_copyFrom_32 : decode cX3_copyFrom 32 = .ok (.return_, 1) := by decide +kernel
theorem dX3_tryWith_0 : decode cX3_tryWith 0 = .ok (.aload_n 0, 1) := by decide +kernel
theorem dX3_tryWith_1 : decode cX3_tryWith 1 = .ok (.getfield 15, 3) := by decide +kernel
theorem dX3_tryWith_4 : decode cX3_tryWith 4 = .ok (.ifCond .ne 4, 3) := by decide +kernel
theorem dX3_tryWith_7 : decode cX3_tryWith 7 = .ok (.return_, 1) := by decide +kernel
theorem dX3_tryWith_8 : decode cX3_tryWith 8 = .ok (.iload_n 1, 1) := by decide +kernel
theorem dX3_tryWith_9 : decode cX3_tryWith 9 = .ok (.aload_n 0, 1) := by decide +kernel
theorem dX3_tryWith_10 : decode cX3_tryWith 10 = .ok (.getfield 15, 3) := by decide +kernel
theorem dX3_tryWith_13 : decode cX3_tryWith 13 = .ok (.if_icmp .lt 21, 3) := by decide +kernel
theorem dX3_tryWith_16 : decode cX3_tryWith 16 = .ok (.aload_n 0, 1) := by decide +kernel
theorem dX3_tryWith_17 : decode cX3_tryWith 17 = .ok (.ldc 24, 2) := by decide +kernel
theorem dX3_tryWith_19 : decode cX3_tryWith 19 = .ok (.aload_n 0, 1) := by decide +kernel
theorem dX3_tryWith_20 : decode cX3_tryWith 20 = .ok (.getfield 18, 3) := by decide +kernel
theorem dX3_tryWith_23 : decode cX3_tryWith 23 = .ok (.iconst 1, 1) := by decide +kernel
theorem dX3_tryWith_24 : decode cX3_tryWith 24 = .ok (.iadd, 1) := by decide +kernel
theorem dX3_tryWith_25 : decode cX3_tryWith 25 = .ok (.invokestatic 25, 3) := by decide +kernel
theorem dX3_tryWith_28 : decode cX3_tryWith 28 = .ok (.putfield 18, 3) := by decide +kernel
theorem dX3_tryWith_31 : decode cX3_tryWith 31 = .ok (.goto 18, 3) := by decide +kernel
theorem dX3_tryWith_34 : decode cX3_tryWith 34 = .ok (.aload_n 0, 1) := by decide +kernel
theorem dX3_tryWith_35 : decode cX3_tryWith 35 = .ok (.ldc 24, 2) := by decide +kernel
theorem dX3_tryWith_37 : decode cX3_tryWith 37 = .ok (.aload_n 0, 1) := by decide +kernel
theorem dX3_tryWith_38 : decode cX3_tryWith 38 = .ok (.getfield 21, 3) := by decide +kernel
theorem dX3_tryWith_41 : decode cX3_tryWith 41 = .ok (.iconst 1, 1) := by decide +kernel
theorem dX3_tryWith_42 : decode cX3_tryWith 42 = .ok (.iadd, 1) := by decide +kernel
theorem dX3_tryWith_43 : decode cX3_tryWith 43 = .ok (.invokestatic 25, 3) := by decide +kernel
theorem dX3_tryWith_46 : decode cX3_tryWith 46 = .ok (.putfield 21, 3) := by decide +kernel
theorem dX3_tryWith_49 : decode cX3_tryWith 49 = .ok (.return_, 1) := by decide +kernel
theorem dX4_init_0 : decode cX4_init 0 = .ok (.aload_n 0, 1) := by decide +kernel
theorem dX4_init_1 : decode cX4_init 1 = .ok (.invokespecial 1, 3) := by decide +kernel
theorem dX4_init_4 : decode cX4_init 4 = .ok (.aload_n 0, 1) := by decide +kernel
theorem dX4_init_5 : decode cX4_init 5 = .ok (.iload_n 2, 1) := by decide +kernel
theorem dX4_init_6 : decode cX4_init 6 = .ok (.newarray .int, 2) := by decide +kernel
theorem dX4_init_8 : decode cX4_init 8 = .ok (.putfield 7, 3) := by decide +kernel
theorem dX4_init_11 : decode cX4_init 11 = .ok (.aload_n 0, 1) := by decide +kernel
theorem dX4_init_12 : decode cX4_init 12 = .ok (.iload_n 2, 1) := by decide +kernel
theorem dX4_init_13 : decode cX4_init 13 = .ok (.newarray .int, 2) := by decide +kernel
theorem dX4_init_15 : decode cX4_init 15 = .ok (.putfield 13, 3) := by decide +kernel
theorem dX4_init_18 : decode cX4_init 18 = .ok (.aload_n 1, 1) := by decide +kernel
theorem dX4_init_19 : decode cX4_init 19 = .ok (.iconst 0, 1) := by decide +kernel
theorem dX4_init_20 : decode cX4_init 20 = .ok (.aload_n 0, 1) := by decide +kernel
theorem dX4_init_21 : decode cX4_init 21 = .ok (.getfield 7, 3) := by decide +kernel
theorem dX4_init_24 : decode cX4_init 24 = .ok (.iconst 0, 1) := by decide +kernel
theorem dX4_init_25 : decode cX4_init 25 = .ok (.iload_n 2, 1) := by decide +kernel
theorem dX4_init_26 : decode cX4_init 26 = .ok (.invokestatic 16, 3) := by decide +kernel
theorem dX4_init_29 : decode cX4_init 29 = .ok (.return_, 1) := by decide +kernel
theorem dX4_value_0 : decode cX4_value 0 = .ok (.iconst 0, 1) := by decide +kernel
theorem dX4_value_1 : decode cX4_value 1 = .ok (.istore 4, 2) := by decide +kernel
theorem dX4_value_3 : decode cX4_value 3 = .ok (.iconst 0, 1) := by decide +kernel
theorem dX4_value_4 : decode cX4_value 4 = .ok (.istore 5, 2) := by decide +kernel
theorem dX4_value_6 : decode cX4_value 6 = .ok (.iload 5, 2) := by decide +kernel
theorem dX4_value_8 : decode cX4_value 8 = .ok (.aload_n 0, 1) := by decide +kernel
theorem dX4_value_9 : decode cX4_value 9 = .ok (.getfield 7, 3) := by decide +kernel
theorem dX4_value_12 : decode cX4_value 12 = .ok (.arraylength, 1) := by decide +kernel
theorem dX4_value_13 : decode cX4_value 13 = .ok (.if_icmp .ge 199, 3) := by decide +kernel
theorem dX4_value_16 : decode cX4_value 16 = .ok (.iload 4, 2) := by decide +kernel
theorem dX4_value_18 : decode cX4_value 18 = .ok (.aload_n 0, 1) := by decide +kernel
theorem dX4_value_19 : decode cX4_value 19 = .ok (.getfield 13, 3) := by decide +kernel
theorem dX4_value_22 : decode cX4_value 22 = .ok (.arraylength, 1) := by decide +kernel
theorem dX4_value_23 : decode cX4_value 23 = .ok (.if_icmp .ge 189, 3) := by decide +kernel
theorem dX4_value_26 : decode cX4_value 26 = .ok (.aload_n 0, 1) := by decide +kernel
theorem dX4_value_27 : decode cX4_value 27 = .ok (.getfield 7, 3) := by decide +kernel
theorem dX4_value_30 : decode cX4_value 30 = .ok (.iload 5, 2) := by decide +kernel
theorem dX4_value_32 : decode cX4_value 32 = .ok (.iaload, 1) := by decide +kernel
theorem dX4_value_33 : decode cX4_value 33 = .ok (.istore 6, 2) := by decide +kernel
theorem dX4_value_35 : decode cX4_value 35 = .ok (.iload 6, 2) := by decide +kernel
theorem dX4_value_37 : decode cX4_value 37 = .ok (.ifCond .lt 18, 3) := by decide +kernel
theorem dX4_value_40 : decode cX4_value 40 = .ok (.aload_n 0, 1) := by decide +kernel
theorem dX4_value_41 : decode cX4_value 41 = .ok (.getfield 13, 3) := by decide +kernel
theorem dX4_value_44 : decode cX4_value 44 = .ok (.iload 4, 2) := by decide +kernel
theorem dX4_value_46 : decode cX4_value 46 = .ok (.iinc 4 1, 3) := by decide +kernel
theorem dX4_value_49 : decode cX4_value 49 = .ok (.iload 6, 2) := by decide +kernel
theorem dX4_value_51 : decode cX4_value 51 = .ok (.iastore, 1) := by decide +kernel
theorem dX4_value_52 : decode cX4_value 52 = .ok (.goto 154, 3) := by decide +kernel
theorem dX4_value_55 : decode cX4_value 55 = .ok (.iload 6, 2) := by decide +kernel
theorem dX4_value_57 : decode cX4_value 57 = .ok (.bipush (-107), 2) := by decide +kernel
theorem dX4_value_59 : decode cX4_value 59 = .ok (.if_icmp .ne 17, 3) := by decide +kernel
theorem dX4_value_62 : decode cX4_value 62 = .ok (.aload_n 0, 1) := by decide +kernel
theorem dX4_value_63 : decode cX4_value 63 = .ok (.getfield 13, 3) := by decide +kernel
theorem dX4_value_66 : decode cX4_value 66 = .ok (.iload 4, 2) := by decide +kernel
theorem dX4_value_68 : decode cX4_value 68 = .ok (.iinc 4 1, 3) := by decide +kernel
theorem dX4_value_71 : decode cX4_value 71 = .ok (.iload_n 1, 1) := by decide +kernel
theorem dX4_value_72 : decode cX4_value 72 = .ok (.iastore, 1) := by decide +kernel
theorem dX4_value_73 : decode cX4_value 73 = .ok (.goto 133, 3) := by decide +kernel
theorem dX4_value_76 : decode cX4_value 76 = .ok (.iload 6, 2) := by decide +kernel
theorem dX4_value_78 : decode cX4_value 78 = .ok (.bipush (-104), 2) := by decide +kernel
theorem dX4_value_80 : decode cX4_value 80 = .ok (.if_icmp .ne 17, 3) := by decide +kernel
theorem dX4_value_83 : decode cX4_value 83 = .ok (.aload_n 0, 1) := by decide +kernel
theorem dX4_value_84 : decode cX4_value 84 = .ok (.getfield 13, 3) := by decide +kernel
theorem dX4_value_87 : decode cX4_value 87 = .ok (.iload 4, 2) := by decide +kernel
theorem dX4_value_89 : decode cX4_value 89 = .ok (.iinc 4 1, 3) := by decide +kernel
theorem dX4_value_92 : decode cX4_value 92 = .ok (.iload_n 2, 1) := by decide +kernel
theorem dX4_value_93 : decode cX4_value 93 = .ok (.iastore, 1) := by decide +kernel
theorem dX4_value_94 : decode cX4_value 94 = .ok (.goto 112, 3) := by decide +kernel
theorem dX4_value_97 : decode cX4_value 97 = .ok (.iload 6, 2) := by decide +kernel
theorem dX4_value_99 : decode cX4_value 99 = .ok (.bipush (-109), 2) := by decide +kernel
theorem dX4_value_101 : decode cX4_value 101 = .ok (.if_icmp .eq 10, 3) := by decide +kernel
theorem dX4_value_104 : decode cX4_value 104 = .ok (.iload 6, 2) := by decide +kernel
theorem dX4_value_106 : decode cX4_value 106 = .ok (.bipush (-100), 2) := by decide +kernel
theorem dX4_value_108 : decode cX4_value 108 = .ok (.if_icmp .ne 17, 3) := by decide +kernel
theorem dX4_value_111 : decode cX4_value 111 = .ok (.aload_n 0, 1) := by decide +kernel
theorem dX4_value_112 : decode cX4_value 112 = .ok (.getfield 13, 3) := by decide +kernel
theorem dX4_value_115 : decode cX4_value 115 = .ok (.iload 4, 2) := by decide +kernel
theorem dX4_value_117 : decode cX4_value 117 = .ok (.iinc 4 1, 3) := by decide +kernel
theorem dX4_value_120 : decode cX4_value 120 = .ok (.iload_n 3, 1) := by decide +kernel
theorem dX4_value_121 : decode cX4_value 121 = .ok (.iastore, 1) := by decide +kernel
theorem dX4_value_122 : decode cX4_value 122 = .ok (.goto 84, 3) := by decide +kernel
theorem dX4_value_125 : decode cX4_value 125 = .ok (.iload 6, 2) := by decide +kernel
theorem dX4_value_127 : decode cX4_value 127 = .ok (.bipush (-33), 2) := by decide +kernel
theorem dX4_value_129 : decode cX4_value 129 = .ok (.if_icmp .ne 37, 3) := by decide +kernel
theorem dX4_value_132 : decode cX4_value 132 = .ok (.iload 4, 2) := by decide +kernel
theorem dX4_value_134 : decode cX4_value 134 = .ok (.ifCond .le 32, 3) := by decide +kernel
theorem dX4_value_137 : decode cX4_value 137 = .ok (.aload_n 0, 1) := by decide +kernel
theorem dX4_value_138 : decode cX4_value 138 = .ok (.getfield 13, 3) := by decide +kernel
theorem dX4_value_141 : decode cX4_value 141 = .ok (.iload 4, 2) := by decide +kernel
theorem dX4_value_143 : decode cX4_value 143 = .ok (.iconst 1, 1) := by decide +kernel
theorem dX4_value_144 : decode cX4_value 144 = .ok (.isub, 1) := by decide +kernel
theorem dX4_value_145 : decode cX4_value 145 = .ok (.aload_n 0, 1) := by decide +kernel
theorem dX4_value_146 : decode cX4_value 146 = .ok (.getfield 13, 3) := by decide +kernel
theorem dX4_value_149 : decode cX4_value 149 = .ok (.iload 4, 2) := by decide +kernel
theorem dX4_value_151 : decode cX4_value 151 = .ok (.iconst 1, 1) := by decide +kernel
theorem dX4_value_152 : decode cX4_value 152 = .ok (.isub, 1) := by decide +kernel
theorem dX4_value_153 : decode cX4_value 153 = .ok (.iaload, 1) := by decide +kernel
theorem dX4_value_154 : decode cX4_value 154 = .ok (.ifCond .ne 7, 3) := by decide +kernel
theorem dX4_value_157 : decode cX4_value 157 = .ok (.iconst 1, 1) := by decide +kernel
theorem dX4_value_158 : decode cX4_value 158 = .ok (.goto 4, 3) := by decide +kernel
theorem dX4_value_161 : decode cX4_value 161 = .ok (.iconst 0, 1) := by decide +kernel
theorem dX4_value_162 : decode cX4_value 162 = .ok (.iastore, 1) := by decide +kernel
theorem dX4_value_163 : decode cX4_value 163 = .ok (.goto 43, 3) := by decide +kernel
theorem dX4_value_166 : decode cX4_value 166 = .ok (.iload 4, 2) := by decide +kernel
theorem dX4_value_168 : decode cX4_value 168 = .ok (.iconst 1, 1) := by decide +kernel
theorem dX4_value_169 : decode cX4_value 169 = .ok (.if_icmp .le 37, 3) := by decide +kernel
theorem dX4_value_172 : decode cX4_value 172 = .ok (.iinc 4 (-1), 3) := by decide +kernel
theorem dX4_value_175 : decode cX4_value 175 = .ok (.aload_n 0, 1) := by decide +kernel
theorem dX4_value_176 : decode cX4_value 176 = .ok (.getfield 13, 3) := by decide +kernel
theorem dX4_value_179 : decode cX4_value 179 = .ok (.iload 4, 2) := by decide +kernel
theorem dX4_value_181 : decode cX4_value 181 = .ok (.iconst 1, 1) := by decide +kernel
theorem dX4_value_182 : decode cX4_value 182 = .ok (.isub, 1) := by decide +kernel
theorem dX4_value_183 : decode cX4_value 183 = .ok (.iload 6, 2) := by decide +kernel
theorem dX4_value_185 : decode cX4_value 185 = .ok (.ineg, 1) := by decide +kernel
theorem dX4_value_186 : decode cX4_value 186 = .ok (.aload_n 0, 1) := by decide +kernel
theorem dX4_value_187 : decode cX4_value 187 = .ok (.getfield 13, 3) := by decide +kernel
theorem dX4_value_190 : decode cX4_value 190 = .ok (.iload 4, 2) := by decide +kernel
theorem dX4_value_192 : decode cX4_value 192 = .ok (.iconst 1, 1) := by decide +kernel
theorem dX4_value_193 : decode cX4_value 193 = .ok (.isub, 1) := by decide +kernel
theorem dX4_value_194 : decode cX4_value 194 = .ok (.iaload, 1) := by decide +kernel
theorem dX4_value_195 : decode cX4_value 195 = .ok (.aload_n 0, 1) := by decide +kernel
theorem dX4_value_196 : decode cX4_value 196 = .ok (.getfield 13, 3) := by decide +kernel
theorem dX4_value_199 : decode cX4_value 199 = .ok (.iload 4, 2) := by decide +kernel
theorem dX4_value_201 : decode cX4_value 201 = .ok (.iaload, 1) := by decide +kernel
theorem dX4_value_202 : decode cX4_value 202 = .ok (.invokestatic 22, 3) := by decide +kernel
theorem dX4_value_205 : decode cX4_value 205 = .ok (.iastore, 1) := by decide +kernel
theorem dX4_value_206 : decode cX4_value 206 = .ok (.iinc 5 1, 3) := by decide +kernel
theorem dX4_value_209 : decode cX4_value 209 = .ok (.goto (-203), 3) := by decide +kernel
theorem dX4_value_212 : decode cX4_value 212 = .ok (.iload 4, 2) := by decide +kernel
theorem dX4_value_214 : decode cX4_value 214 = .ok (.ifCond .le 12, 3) := by decide +kernel
theorem dX4_value_217 : decode cX4_value 217 = .ok (.aload_n 0, 1) := by decide +kernel
theorem dX4_value_218 : decode cX4_value 218 = .ok (.getfield 13, 3) := by decide +kernel
theorem dX4_value_221 : decode cX4_value 221 = .ok (.iconst 0, 1) := by decide +kernel
theorem dX4_value_222 : decode cX4_value 222 = .ok (.iaload, 1) := by decide +kernel
theorem dX4_value_223 : decode cX4_value 223 = .ok (.goto 4, 3) := by decide +kernel
theorem dX4_value_226 : decode cX4_value 226 = .ok (.iconst 0, 1) := by decide +kernel
theorem dX4_value_227 : decode cX4_value 227 = .ok (.ireturn, 1) := by decide +kernel
theorem dX4_joined_0 : decode cX4_joined 0 = .ok (.iload_n 0, 1) := by decide +kernel
theorem dX4_joined_1 : decode cX4_joined 1 = .ok (.lookupswitch 188 #[(37, 176), (38, 105), (42, 160), (43, 152), (45, 156), (47, 164), (60, 119), (61, 130), (62, 141), (124, 91)], 91) := by decide +kernel
theorem dX4_joined_92 : decode cX4_joined 92 = .ok (.iload_n 1, 1) := by decide +kernel
theorem dX4_joined_93 : decode cX4_joined 93 = .ok (.ifCond .ne 7, 3) := by decide +kernel
theorem dX4_joined_96 : decode cX4_joined 96 = .ok (.iload_n 2, 1) := by decide +kernel
theorem dX4_joined_97 : decode cX4_joined 97 = .ok (.ifCond .eq 7, 3) := by decide +kernel
theorem dX4_joined_100 : decode cX4_joined 100 = .ok (.iconst 1, 1) := by decide +kernel
theorem dX4_joined_101 : decode cX4_joined 101 = .ok (.goto 4, 3) := by decide +kernel
theorem dX4_joined_104 : decode cX4_joined 104 = .ok (.iconst 0, 1) := by decide +kernel
theorem dX4_joined_105 : decode cX4_joined 105 = .ok (.ireturn, 1) := by decide +kernel
theorem dX4_joined_106 : decode cX4_joined 106 = .ok (.iload_n 1, 1) := by decide +kernel
theorem dX4_joined_107 : decode cX4_joined 107 = .ok (.ifCond .eq 11, 3) := by decide +kernel
theorem dX4_joined_110 : decode cX4_joined 110 = .ok (.iload_n 2, 1) := by decide +kernel
theorem dX4_joined_111 : decode cX4_joined 111 = .ok (.ifCond .eq 7, 3) := by decide +kernel
theorem dX4_joined_114 : decode cX4_joined 114 = .ok (.iconst 1, 1) := by decide +kernel
theorem dX4_joined_115 : decode cX4_joined 115 = .ok (.goto 4, 3) := by decide +kernel
theorem dX4_joined_118 : decode cX4_joined 118 = .ok (.iconst 0, 1) := by decide +kernel
theorem dX4_joined_119 : decode cX4_joined 119 = .ok (.ireturn, 1) := by decide +kernel
theorem dX4_joined_120 : decode cX4_joined 120 = .ok (.iload_n 1, 1) := by decide +kernel
theorem dX4_joined_121 : decode cX4_joined 121 = .ok (.iload_n 2, 1) := by decide +kernel
theorem dX4_joined_122 : decode cX4_joined 122 = .ok (.if_icmp .ge 7, 3) := by decide +kernel
theorem dX4_joined_125 : decode cX4_joined 125 = .ok (.iconst 1, 1) := by decide +kernel
theorem dX4_joined_126 : decode cX4_joined 126 = .ok (.goto 4, 3) := by decide +kernel
theorem dX4_joined_129 : decode cX4_joined 129 = .ok (.iconst 0, 1) := by decide +kernel
theorem dX4_joined_130 : decode cX4_joined 130 = .ok (.ireturn, 1) := by decide +kernel
theorem dX4_joined_131 : decode cX4_joined 131 = .ok (.iload_n 1, 1) := by decide +kernel
theorem dX4_joined_132 : decode cX4_joined 132 = .ok (.iload_n 2, 1) := by decide +kernel
theorem dX4_joined_133 : decode cX4_joined 133 = .ok (.if_icmp .ne 7, 3) := by decide +kernel
theorem dX4_joined_136 : decode cX4_joined 136 = .ok (.iconst 1, 1) := by decide +kernel
theorem dX4_joined_137 : decode cX4_joined 137 = .ok (.goto 4, 3) := by decide +kernel
theorem dX4_joined_140 : decode cX4_joined 140 = .ok (.iconst 0, 1) := by decide +kernel
theorem dX4_joined_141 : decode cX4_joined 141 = .ok (.ireturn, 1) := by decide +kernel
theorem dX4_joined_142 : decode cX4_joined 142 = .ok (.iload_n 1, 1) := by decide +kernel
theorem dX4_joined_143 : decode cX4_joined 143 = .ok (.iload_n 2, 1) := by decide +kernel
theorem dX4_joined_144 : decode cX4_joined 144 = .ok (.if_icmp .le 7, 3) := by decide +kernel
theorem dX4_joined_147 : decode cX4_joined 147 = .ok (.iconst 1, 1) := by decide +kernel
theorem dX4_joined_148 : decode cX4_joined 148 = .ok (.goto 4, 3) := by decide +kernel
theorem dX4_joined_151 : decode cX4_joined 151 = .ok (.iconst 0, 1) := by decide +kernel
theorem dX4_joined_152 : decode cX4_joined 152 = .ok (.ireturn, 1) := by decide +kernel
theorem dX4_joined_153 : decode cX4_joined 153 = .ok (.iload_n 1, 1) := by decide +kernel
theorem dX4_joined_154 : decode cX4_joined 154 = .ok (.iload_n 2, 1) := by decide +kernel
theorem dX4_joined_155 : decode cX4_joined 155 = .ok (.iadd, 1) := by decide +kernel
theorem dX4_joined_156 : decode cX4_joined 156 = .ok (.ireturn, 1) := by decide +kernel
theorem dX4_joined_157 : decode cX4_joined 157 = .ok (.iload_n 1, 1) := by decide +kernel
theorem dX4_joined_158 : decode cX4_joined 158 = .ok (.iload_n 2, 1) := by decide +kernel
theorem dX4_joined_159 : decode cX4_joined 159 = .ok (.isub, 1) := by decide +kernel
theorem dX4_joined_160 : decode cX4_joined 160 = .ok (.ireturn, 1) := by decide +kernel
theorem dX4_joined_161 : decode cX4_joined 161 = .ok (.iload_n 1, 1) := by decide +kernel
theorem dX4_joined_162 : decode cX4_joined 162 = .ok (.iload_n 2, 1) := by decide +kernel
theorem dX4_joined_163 : decode cX4_joined 163 = .ok (.imul, 1) := by decide +kernel
theorem dX4_joined_164 : decode cX4_joined 164 = .ok (.ireturn, 1) := by decide +kernel
theorem dX4_joined_165 : decode cX4_joined 165 = .ok (.iload_n 2, 1) := by decide +kernel
theorem dX4_joined_166 : decode cX4_joined 166 = .ok (.ifCond .ne 7, 3) := by decide +kernel
theorem dX4_joined_169 : decode cX4_joined 169 = .ok (.iconst 0, 1) := by decide +kernel
theorem dX4_joined_170 : decode cX4_joined 170 = .ok (.goto 6, 3) := by decide +kernel
theorem dX4_joined_173 : decode cX4_joined 173 = .ok (.iload_n 1, 1) := by decide +kernel
theorem dX4_joined_174 : decode cX4_joined 174 = .ok (.iload_n 2, 1) := by decide +kernel
theorem dX4_joined_175 : decode cX4_joined 175 = .ok (.idiv, 1) := by decide +kernel
theorem dX4_joined_176 : decode cX4_joined 176 = .ok (.ireturn, 1) := by decide +kernel
theorem dX4_joined_177 : decode cX4_joined 177 = .ok (.iload_n 2, 1) := by decide +kernel
theorem dX4_joined_178 : decode cX4_joined 178 = .ok (.ifCond .ne 7, 3) := by decide +kernel
theorem dX4_joined_181 : decode cX4_joined 181 = .ok (.iconst 0, 1) := by decide +kernel
theorem dX4_joined_182 : decode cX4_joined 182 = .ok (.goto 6, 3) := by decide +kernel
theorem dX4_joined_185 : decode cX4_joined 185 = .ok (.iload_n 1, 1) := by decide +kernel
theorem dX4_joined_186 : decode cX4_joined 186 = .ok (.iload_n 2, 1) := by decide +kernel
theorem dX4_joined_187 : decode cX4_joined 187 = .ok (.irem, 1) := by decide +kernel
theorem dX4_joined_188 : decode cX4_joined 188 = .ok (.ireturn, 1) := by decide +kernel
theorem dX4_joined_189 : decode cX4_joined 189 = .ok (.iconst 0, 1) := by decide +kernel
theorem dX4_joined_190 : decode cX4_joined 190 = .ok (.ireturn, 1) := by decide +kernel
theorem dX5_init_0 : decode cX5_init 0 = .ok (.aload_n 0, 1) := by decide +kernel
theorem dX5_init_1 : decode cX5_init 1 = .ok (.invokespecial 3, 3) := by decide +kernel
theorem dX5_init_4 : decode cX5_init 4 = .ok (.aload_n 0, 1) := by decide +kernel
theorem dX5_init_5 : decode cX5_init 5 = .ok (.bipush 60, 2) := by decide +kernel
theorem dX5_init_7 : decode cX5_init 7 = .ok (.newarray .int, 2) := by decide +kernel
theorem dX5_init_9 : decode cX5_init 9 = .ok (.putfield 9, 3) := by decide +kernel
theorem dX5_init_12 : decode cX5_init 12 = .ok (.return_, 1) := by decide +kernel
theorem dX5_read_0 : decode cX5_read 0 = .ok (.aload_n 0, 1) := by decide +kernel
theorem dX5_read_1 : decode cX5_read 1 = .ok (.aload_n 1, 1) := by decide +kernel
theorem dX5_read_2 : decode cX5_read 2 = .ok (.putfield 15, 3) := by decide +kernel
theorem dX5_read_5 : decode cX5_read 5 = .ok (.aload_n 0, 1) := by decide +kernel
theorem dX5_read_6 : decode cX5_read 6 = .ok (.iload_n 2, 1) := by decide +kernel
theorem dX5_read_7 : decode cX5_read 7 = .ok (.aload_n 1, 1) := by decide +kernel
theorem dX5_read_8 : decode cX5_read 8 = .ok (.arraylength, 1) := by decide +kernel
theorem dX5_read_9 : decode cX5_read 9 = .ok (.invokestatic 19, 3) := by decide +kernel
theorem dX5_read_12 : decode cX5_read 12 = .ok (.putfield 25, 3) := by decide +kernel
theorem dX5_read_15 : decode cX5_read 15 = .ok (.aload_n 0, 1) := by decide +kernel
theorem dX5_read_16 : decode cX5_read 16 = .ok (.iload_n 3, 1) := by decide +kernel
theorem dX5_read_17 : decode cX5_read 17 = .ok (.putfield 29, 3) := by decide +kernel
theorem dX5_read_20 : decode cX5_read 20 = .ok (.aload_n 0, 1) := by decide +kernel
theorem dX5_read_21 : decode cX5_read 21 = .ok (.iconst 0, 1) := by decide +kernel
theorem dX5_read_22 : decode cX5_read 22 = .ok (.putfield 32, 3) := by decide +kernel
theorem dX5_read_25 : decode cX5_read 25 = .ok (.aload_n 0, 1) := by decide +kernel
theorem dX5_read_26 : decode cX5_read 26 = .ok (.iconst 0, 1) := by decide +kernel
theorem dX5_read_27 : decode cX5_read 27 = .ok (.putfield 35, 3) := by decide +kernel
theorem dX5_read_30 : decode cX5_read 30 = .ok (.aload_n 0, 1) := by decide +kernel
theorem dX5_read_31 : decode cX5_read 31 = .ok (.iconst (-1), 1) := by decide +kernel
theorem dX5_read_32 : decode cX5_read 32 = .ok (.putfield 38, 3) := by decide +kernel
theorem dX5_read_35 : decode cX5_read 35 = .ok (.aload_n 0, 1) := by decide +kernel
theorem dX5_read_36 : decode cX5_read 36 = .ok (.iconst 0, 1) := by decide +kernel
theorem dX5_read_37 : decode cX5_read 37 = .ok (.invokevirtual 41, 3) := by decide +kernel
theorem dX5_read_40 : decode cX5_read 40 = .ok (.aload_n 0, 1) := by decide +kernel
theorem dX5_read_41 : decode cX5_read 41 = .ok (.getfield 32, 3) := by decide +kernel
theorem dX5_read_44 : decode cX5_read 44 = .ok (.aload_n 0, 1) := by decide +kernel
theorem dX5_read_45 : decode cX5_read 45 = .ok (.getfield 25, 3) := by decide +kernel
theorem dX5_read_48 : decode cX5_read 48 = .ok (.if_icmp .ge 7, 3) := by decide +kernel
theorem dX5_read_51 : decode cX5_read 51 = .ok (.aload_n 0, 1) := by decide +kernel
theorem dX5_read_52 : decode cX5_read 52 = .ok (.invokevirtual 45, 3) := by decide +kernel
theorem dX5_read_55 : decode cX5_read 55 = .ok (.aload_n 0, 1) := by decide +kernel
theorem dX5_read_56 : decode cX5_read 56 = .ok (.getfield 38, 3) := by decide +kernel
theorem dX5_read_59 : decode cX5_read 59 = .ok (.ifCond .ge 21, 3) := by decide +kernel
theorem dX5_read_62 : decode cX5_read 62 = .ok (.new 48, 3) := by decide +kernel
theorem dX5_read_65 : decode cX5_read 65 = .ok (.dup, 1) := by decide +kernel
theorem dX5_read_66 : decode cX5_read 66 = .ok (.aload_n 0, 1) := by decide +kernel
theorem dX5_read_67 : decode cX5_read 67 = .ok (.getfield 9, 3) := by decide +kernel
theorem dX5_read_70 : decode cX5_read 70 = .ok (.aload_n 0, 1) := by decide +kernel
theorem dX5_read_71 : decode cX5_read 71 = .ok (.getfield 35, 3) := by decide +kernel
theorem dX5_read_74 : decode cX5_read 74 = .ok (.invokespecial 50, 3) := by decide +kernel
theorem dX5_read_77 : decode cX5_read 77 = .ok (.goto 4, 3) := by decide +kernel
theorem dX5_read_80 : decode cX5_read 80 = .ok (.aconst_null, 1) := by decide +kernel
theorem dX5_read_81 : decode cX5_read 81 = .ok (.areturn, 1) := by decide +kernel
theorem dX5_readT_0 : decode cX5_readT 0 = .ok (.aload_n 0, 1) := by decide +kernel
theorem dX5_readT_1 : decode cX5_readT 1 = .ok (.iload_n 1, 1) := by decide +kernel
theorem dX5_readT_2 : decode cX5_readT 2 = .ok (.invokevirtual 53, 3) := by decide +kernel
theorem dX5_readT_5 : decode cX5_readT 5 = .ok (.iconst 0, 1) := by decide +kernel
theorem dX5_readT_6 : decode cX5_readT 6 = .ok (.istore_n 2, 1) := by decide +kernel
theorem dX5_readT_7 : decode cX5_readT 7 = .ok (.iload_n 2, 1) := by decide +kernel
theorem dX5_readT_8 : decode cX5_readT 8 = .ok (.aload_n 0, 1) := by decide +kernel
theorem dX5_readT_9 : decode cX5_readT 9 = .ok (.getfield 25, 3) := by decide +kernel
theorem dX5_readT_12 : decode cX5_readT 12 = .ok (.if_icmp .ge 29, 3) := by decide +kernel
theorem dX5_readT_15 : decode cX5_readT 15 = .ok (.aload_n 0, 1) := by decide +kernel
theorem dX5_readT_16 : decode cX5_readT 16 = .ok (.bipush 124, 2) := by decide +kernel
theorem dX5_readT_18 : decode cX5_readT 18 = .ok (.invokevirtual 56, 3) := by decide +kernel
theorem dX5_readT_21 : decode cX5_readT 21 = .ok (.ifCond .eq 20, 3) := by decide +kernel
theorem dX5_readT_24 : decode cX5_readT 24 = .ok (.aload_n 0, 1) := by decide +kernel
theorem dX5_readT_25 : decode cX5_readT 25 = .ok (.iload_n 1, 1) := by decide +kernel
theorem dX5_readT_26 : decode cX5_readT 26 = .ok (.invokevirtual 53, 3) := by decide +kernel
theorem dX5_readT_29 : decode cX5_readT 29 = .ok (.aload_n 0, 1) := by decide +kernel
theorem dX5_readT_30 : decode cX5_readT 30 = .ok (.bipush (-124), 2) := by decide +kernel
theorem dX5_readT_32 : decode cX5_readT 32 = .ok (.invokevirtual 60, 3) := by decide +kernel
theorem dX5_readT_35 : decode cX5_readT 35 = .ok (.iinc 2 1, 3) := by decide +kernel
theorem dX5_readT_38 : decode cX5_readT 38 = .ok (.goto (-31), 3) := by decide +kernel
theorem dX5_readT_41 : decode cX5_readT 41 = .ok (.return_, 1) := by decide +kernel
theorem dX5_readA_0 : decode cX5_readA 0 = .ok (.aload_n 0, 1) := by decide +kernel
theorem dX5_readA_1 : decode cX5_readA 1 = .ok (.iload_n 1, 1) := by decide +kernel
theorem dX5_readA_2 : decode cX5_readA 2 = .ok (.invokevirtual 63, 3) := by decide +kernel
theorem dX5_readA_5 : decode cX5_readA 5 = .ok (.iconst 0, 1) := by decide +kernel
theorem dX5_readA_6 : decode cX5_readA 6 = .ok (.istore_n 2, 1) := by decide +kernel
theorem dX5_readA_7 : decode cX5_readA 7 = .ok (.iload_n 2, 1) := by decide +kernel
theorem dX5_readA_8 : decode cX5_readA 8 = .ok (.aload_n 0, 1) := by decide +kernel
theorem dX5_readA_9 : decode cX5_readA 9 = .ok (.getfield 25, 3) := by decide +kernel
theorem dX5_readA_12 : decode cX5_readA 12 = .ok (.if_icmp .ge 29, 3) := by decide +kernel
theorem dX5_readA_15 : decode cX5_readA 15 = .ok (.aload_n 0, 1) := by decide +kernel
theorem dX5_readA_16 : decode cX5_readA 16 = .ok (.bipush 38, 2) := by decide +kernel
theorem dX5_readA_18 : decode cX5_readA 18 = .ok (.invokevirtual 56, 3) := by decide +kernel
theorem dX5_readA_21 : decode cX5_readA 21 = .ok (.ifCond .eq 20, 3) := by decide +kernel
theorem dX5_readA_24 : decode cX5_readA 24 = .ok (.aload_n 0, 1) := by decide +kernel
theorem dX5_readA_25 : decode cX5_readA 25 = .ok (.iload_n 1, 1) := by decide +kernel
theorem dX5_readA_26 : decode cX5_readA 26 = .ok (.invokevirtual 63, 3) := by decide +kernel
theorem dX5_readA_29 : decode cX5_readA 29 = .ok (.aload_n 0, 1) := by decide +kernel
theorem dX5_readA_30 : decode cX5_readA 30 = .ok (.bipush (-38), 2) := by decide +kernel
theorem dX5_readA_32 : decode cX5_readA 32 = .ok (.invokevirtual 60, 3) := by decide +kernel
theorem dX5_readA_35 : decode cX5_readA 35 = .ok (.iinc 2 1, 3) := by decide +kernel
theorem dX5_readA_38 : decode cX5_readA 38 = .ok (.goto (-31), 3) := by decide +kernel
theorem dX5_readA_41 : decode cX5_readA 41 = .ok (.return_, 1) := by decide +kernel
theorem dX5_readB_0 : decode cX5_readB 0 = .ok (.aload_n 0, 1) := by decide +kernel
theorem dX5_readB_1 : decode cX5_readB 1 = .ok (.iload_n 1, 1) := by decide +kernel
theorem dX5_readB_2 : decode cX5_readB 2 = .ok (.invokevirtual 66, 3) := by decide +kernel
theorem dX5_readB_5 : decode cX5_readB 5 = .ok (.aload_n 0, 1) := by decide +kernel
theorem dX5_readB_6 : decode cX5_readB 6 = .ok (.invokevirtual 69, 3) := by decide +kernel
theorem dX5_readB_9 : decode cX5_readB 9 = .ok (.istore_n 2, 1) := by decide +kernel
theorem dX5_readB_10 : decode cX5_readB 10 = .ok (.iload_n 2, 1) := by decide +kernel
theorem dX5_readB_11 : decode cX5_readB 11 = .ok (.bipush 60, 2) := by decide +kernel
theorem dX5_readB_13 : decode cX5_readB 13 = .ok (.if_icmp .eq 15, 3) := by decide +kernel
theorem dX5_readB_16 : decode cX5_readB 16 = .ok (.iload_n 2, 1) := by decide +kernel
theorem dX5_readB_17 : decode cX5_readB 17 = .ok (.bipush 61, 2) := by decide +kernel
theorem dX5_readB_19 : decode cX5_readB 19 = .ok (.if_icmp .eq 9, 3) := by decide +kernel
theorem dX5_readB_22 : decode cX5_readB 22 = .ok (.iload_n 2, 1) := by decide +kernel
theorem dX5_readB_23 : decode cX5_readB 23 = .ok (.bipush 62, 2) := by decide +kernel
theorem dX5_readB_25 : decode cX5_readB 25 = .ok (.if_icmp .ne 24, 3) := by decide +kernel
theorem dX5_readB_28 : decode cX5_readB 28 = .ok (.aload_n 0, 1) := by decide +kernel
theorem dX5_readB_29 : decode cX5_readB 29 = .ok (.dup, 1) := by decide +kernel
theorem dX5_readB_30 : decode cX5_readB 30 = .ok (.getfield 32, 3) := by decide +kernel
theorem dX5_readB_33 : decode cX5_readB 33 = .ok (.iconst 1, 1) := by decide +kernel
theorem dX5_readB_34 : decode cX5_readB 34 = .ok (.iadd, 1) := by decide +kernel
theorem dX5_readB_35 : decode cX5_readB 35 = .ok (.putfield 32, 3) := by decide +kernel
theorem dX5_readB_38 : decode cX5_readB 38 = .ok (.aload_n 0, 1) := by decide +kernel
theorem dX5_readB_39 : decode cX5_readB 39 = .ok (.iload_n 1, 1) := by decide +kernel
theorem dX5_readB_40 : decode cX5_readB 40 = .ok (.invokevirtual 66, 3) := by decide +kernel
theorem dX5_readB_43 : decode cX5_readB 43 = .ok (.aload_n 0, 1) := by decide +kernel
theorem dX5_readB_44 : decode cX5_readB 44 = .ok (.iload_n 2, 1) := by decide +kernel
theorem dX5_readB_45 : decode cX5_readB 45 = .ok (.ineg, 1) := by decide +kernel
theorem dX5_readB_46 : decode cX5_readB 46 = .ok (.invokevirtual 60, 3) := by decide +kernel
theorem dX5_readB_49 : decode cX5_readB 49 = .ok (.return_, 1) := by decide +kernel
theorem dX5_readS_0 : decode cX5_readS 0 = .ok (.aload_n 0, 1) := by decide +kernel
theorem dX5_readS_1 : decode cX5_readS 1 = .ok (.iload_n 1, 1) := by decide +kernel
theorem dX5_readS_2 : decode cX5_readS 2 = .ok (.invokevirtual 73, 3) := by decide +kernel
theorem dX5_readS_5 : decode cX5_readS 5 = .ok (.iconst 0, 1) := by decide +kernel
theorem dX5_readS_6 : decode cX5_readS 6 = .ok (.istore_n 2, 1) := by decide +kernel
theorem dX5_readS_7 : decode cX5_readS 7 = .ok (.iload_n 2, 1) := by decide +kernel
theorem dX5_readS_8 : decode cX5_readS 8 = .ok (.aload_n 0, 1) := by decide +kernel
theorem dX5_readS_9 : decode cX5_readS 9 = .ok (.getfield 25, 3) := by decide +kernel
theorem dX5_readS_12 : decode cX5_readS 12 = .ok (.if_icmp .ge 53, 3) := by decide +kernel
theorem dX5_readS_15 : decode cX5_readS 15 = .ok (.aload_n 0, 1) := by decide +kernel
theorem dX5_readS_16 : decode cX5_readS 16 = .ok (.invokevirtual 69, 3) := by decide +kernel
theorem dX5_readS_19 : decode cX5_readS 19 = .ok (.bipush 43, 2) := by decide +kernel
theorem dX5_readS_21 : decode cX5_readS 21 = .ok (.if_icmp .eq 12, 3) := by decide +kernel
theorem dX5_readS_24 : decode cX5_readS 24 = .ok (.aload_n 0, 1) := by decide +kernel
theorem dX5_readS_25 : decode cX5_readS 25 = .ok (.invokevirtual 69, 3) := by decide +kernel
theorem dX5_readS_28 : decode cX5_readS 28 = .ok (.bipush 45, 2) := by decide +kernel
theorem dX5_readS_30 : decode cX5_readS 30 = .ok (.if_icmp .ne 35, 3) := by decide +kernel
theorem dX5_readS_33 : decode cX5_readS 33 = .ok (.aload_n 0, 1) := by decide +kernel
theorem dX5_readS_34 : decode cX5_readS 34 = .ok (.invokevirtual 69, 3) := by decide +kernel
theorem dX5_readS_37 : decode cX5_readS 37 = .ok (.istore_n 3, 1) := by decide +kernel
theorem dX5_readS_38 : decode cX5_readS 38 = .ok (.aload_n 0, 1) := by decide +kernel
theorem dX5_readS_39 : decode cX5_readS 39 = .ok (.dup, 1) := by decide +kernel
theorem dX5_readS_40 : decode cX5_readS 40 = .ok (.getfield 32, 3) := by decide +kernel
theorem dX5_readS_43 : decode cX5_readS 43 = .ok (.iconst 1, 1) := by decide +kernel
theorem dX5_readS_44 : decode cX5_readS 44 = .ok (.iadd, 1) := by decide +kernel
theorem dX5_readS_45 : decode cX5_readS 45 = .ok (.putfield 32, 3) := by decide +kernel
theorem dX5_readS_48 : decode cX5_readS 48 = .ok (.aload_n 0, 1) := by decide +kernel
theorem dX5_readS_49 : decode cX5_readS 49 = .ok (.iload_n 1, 1) := by decide +kernel
theorem dX5_readS_50 : decode cX5_readS 50 = .ok (.invokevirtual 73, 3) := by decide +kernel
theorem dX5_readS_53 : decode cX5_readS 53 = .ok (.aload_n 0, 1) := by decide +kernel
theorem dX5_readS_54 : decode cX5_readS 54 = .ok (.iload_n 3, 1) := by decide +kernel
theorem dX5_readS_55 : decode cX5_readS 55 = .ok (.ineg, 1) := by decide +kernel
theorem dX5_readS_56 : decode cX5_readS 56 = .ok (.invokevirtual 60, 3) := by decide +kernel
theorem dX5_readS_59 : decode cX5_readS 59 = .ok (.iinc 2 1, 3) := by decide +kernel
theorem dX5_readS_62 : decode cX5_readS 62 = .ok (.goto (-55), 3) := by decide +kernel
theorem dX5_readS_65 : decode cX5_readS 65 = .ok (.return_, 1) := by decide +kernel
theorem dX5_readP_0 : decode cX5_readP 0 = .ok (.aload_n 0, 1) := by decide +kernel
theorem dX5_readP_1 : decode cX5_readP 1 = .ok (.iload_n 1, 1) := by decide +kernel
theorem dX5_readP_2 : decode cX5_readP 2 = .ok (.invokevirtual 76, 3) := by decide +kernel
theorem dX5_readP_5 : decode cX5_readP 5 = .ok (.iconst 0, 1) := by decide +kernel
theorem dX5_readP_6 : decode cX5_readP 6 = .ok (.istore_n 2, 1) := by decide +kernel
theorem dX5_readP_7 : decode cX5_readP 7 = .ok (.iload_n 2, 1) := by decide +kernel
theorem dX5_readP_8 : decode cX5_readP 8 = .ok (.aload_n 0, 1) := by decide +kernel
theorem dX5_readP_9 : decode cX5_readP 9 = .ok (.getfield 25, 3) := by decide +kernel
theorem dX5_readP_12 : decode cX5_readP 12 = .ok (.if_icmp .ge 62, 3) := by decide +kernel
theorem dX5_readP_15 : decode cX5_readP 15 = .ok (.aload_n 0, 1) := by decide +kernel
theorem dX5_readP_16 : decode cX5_readP 16 = .ok (.invokevirtual 69, 3) := by decide +kernel
theorem dX5_readP_19 : decode cX5_readP 19 = .ok (.bipush 42, 2) := by decide +kernel
theorem dX5_readP_21 : decode cX5_readP 21 = .ok (.if_icmp .eq 21, 3) := by decide +kernel
theorem dX5_readP_24 : decode cX5_readP 24 = .ok (.aload_n 0, 1) := by decide +kernel
theorem dX5_readP_25 : decode cX5_readP 25 = .ok (.invokevirtual 69, 3) := by decide +kernel
theorem dX5_readP_28 : decode cX5_readP 28 = .ok (.bipush 47, 2) := by decide +kernel
theorem dX5_readP_30 : decode cX5_readP 30 = .ok (.if_icmp .eq 12, 3) := by decide +kernel
theorem dX5_readP_33 : decode cX5_readP 33 = .ok (.aload_n 0, 1) := by decide +kernel
theorem dX5_readP_34 : decode cX5_readP 34 = .ok (.invokevirtual 69, 3) := by decide +kernel
theorem dX5_readP_37 : decode cX5_readP 37 = .ok (.bipush 37, 2) := by decide +kernel
theorem dX5_readP_39 : decode cX5_readP 39 = .ok (.if_icmp .ne 35, 3) := by decide +kernel
theorem dX5_readP_42 : decode cX5_readP 42 = .ok (.aload_n 0, 1) := by decide +kernel
theorem dX5_readP_43 : decode cX5_readP 43 = .ok (.invokevirtual 69, 3) := by decide +kernel
theorem dX5_readP_46 : decode cX5_readP 46 = .ok (.istore_n 3, 1) := by decide +kernel
theorem dX5_readP_47 : decode cX5_readP 47 = .ok (.aload_n 0, 1) := by decide +kernel
theorem dX5_readP_48 : decode cX5_readP 48 = .ok (.dup, 1) := by decide +kernel
theorem dX5_readP_49 : decode cX5_readP 49 = .ok (.getfield 32, 3) := by decide +kernel
theorem dX5_readP_52 : decode cX5_readP 52 = .ok (.iconst 1, 1) := by decide +kernel
theorem dX5_readP_53 : decode cX5_readP 53 = .ok (.iadd, 1) := by decide +kernel
theorem dX5_readP_54 : decode cX5_readP 54 = .ok (.putfield 32, 3) := by decide +kernel
theorem dX5_readP_57 : decode cX5_readP 57 = .ok (.aload_n 0, 1) := by decide +kernel
theorem dX5_readP_58 : decode cX5_readP 58 = .ok (.iload_n 1, 1) := by decide +kernel
theorem dX5_readP_59 : decode cX5_readP 59 = .ok (.invokevirtual 76, 3) := by decide +kernel
theorem dX5_readP_62 : decode cX5_readP 62 = .ok (.aload_n 0, 1) := by decide +kernel
theorem dX5_readP_63 : decode cX5_readP 63 = .ok (.iload_n 3, 1) := by decide +kernel
theorem dX5_readP_64 : decode cX5_readP 64 = .ok (.ineg, 1) := by decide +kernel
theorem dX5_readP_65 : decode cX5_readP 65 = .ok (.invokevirtual 60, 3) := by decide +kernel
theorem dX5_readP_68 : decode cX5_readP 68 = .ok (.iinc 2 1, 3) := by decide +kernel
theorem dX5_readP_71 : decode cX5_readP 71 = .ok (.goto (-64), 3) := by decide +kernel
theorem dX5_readP_74 : decode cX5_readP 74 = .ok (.return_, 1) := by decide +kernel
theorem dX5_readQ_0 : decode cX5_readQ 0 = .ok (.aload_n 0, 1) := by decide +kernel
theorem dX5_readQ_1 : decode cX5_readQ 1 = .ok (.invokevirtual 69, 3) := by decide +kernel
theorem dX5_readQ_4 : decode cX5_readQ 4 = .ok (.istore_n 2, 1) := by decide +kernel
theorem dX5_readQ_5 : decode cX5_readQ 5 = .ok (.iload_n 2, 1) := by decide +kernel
theorem dX5_readQ_6 : decode cX5_readQ 6 = .ok (.invokestatic 79, 3) := by decide +kernel
theorem dX5_readQ_9 : decode cX5_readQ 9 = .ok (.ifCond .eq 10, 3) := by decide +kernel
theorem dX5_readQ_12 : decode cX5_readQ 12 = .ok (.aload_n 0, 1) := by decide +kernel
theorem dX5_readQ_13 : decode cX5_readQ 13 = .ok (.invokevirtual 82, 3) := by decide +kernel
theorem dX5_readQ_16 : decode cX5_readQ 16 = .ok (.goto 127, 3) := by decide +kernel
theorem dX5_readQ_19 : decode cX5_readQ 19 = .ok (.iload_n 2, 1) := by decide +kernel
theorem dX5_readQ_20 : decode cX5_readQ 20 = .ok (.bipush 107, 2) := by decide +kernel
theorem dX5_readQ_22 : decode cX5_readQ 22 = .ok (.if_icmp .eq 17, 3) := by decide +kernel
theorem dX5_readQ_25 : decode cX5_readQ 25 = .ok (.iload_n 2, 1) := by decide +kernel
theorem dX5_readQ_26 : decode cX5_readQ 26 = .ok (.bipush 104, 2) := by decide +kernel
theorem dX5_readQ_28 : decode cX5_readQ 28 = .ok (.if_icmp .eq 11, 3) := by decide +kernel
theorem dX5_readQ_31 : decode cX5_readQ 31 = .ok (.iload_n 2, 1) := by decide +kernel
theorem dX5_readQ_32 : decode cX5_readQ 32 = .ok (.aload_n 0, 1) := by decide +kernel
theorem dX5_readQ_33 : decode cX5_readQ 33 = .ok (.getfield 29, 3) := by decide +kernel
theorem dX5_readQ_36 : decode cX5_readQ 36 = .ok (.if_icmp .ne 22, 3) := by decide +kernel
theorem dX5_readQ_39 : decode cX5_readQ 39 = .ok (.aload_n 0, 1) := by decide +kernel
theorem dX5_readQ_40 : decode cX5_readQ 40 = .ok (.dup, 1) := by decide +kernel
theorem dX5_readQ_41 : decode cX5_readQ 41 = .ok (.getfield 32, 3) := by decide +kernel
theorem dX5_readQ_44 : decode cX5_readQ 44 = .ok (.iconst 1, 1) := by decide +kernel
theorem dX5_readQ_45 : decode cX5_readQ 45 = .ok (.iadd, 1) := by decide +kernel
theorem dX5_readQ_46 : decode cX5_readQ 46 = .ok (.putfield 32, 3) := by decide +kernel
theorem dX5_readQ_49 : decode cX5_readQ 49 = .ok (.aload_n 0, 1) := by decide +kernel
theorem dX5_readQ_50 : decode cX5_readQ 50 = .ok (.iload_n 2, 1) := by decide +kernel
theorem dX5_readQ_51 : decode cX5_readQ 51 = .ok (.ineg, 1) := by decide +kernel
theorem dX5_readQ_52 : decode cX5_readQ 52 = .ok (.invokevirtual 60, 3) := by decide +kernel
theorem dX5_readQ_55 : decode cX5_readQ 55 = .ok (.goto 88, 3) := by decide +kernel
theorem dX5_readQ_58 : decode cX5_readQ 58 = .ok (.iload_n 2, 1) := by decide +kernel
theorem dX5_readQ_59 : decode cX5_readQ 59 = .ok (.bipush 33, 2) := by decide +kernel
theorem dX5_readQ_61 : decode cX5_readQ 61 = .ok (.if_icmp .ne 34, 3) := by decide +kernel
theorem dX5_readQ_64 : decode cX5_readQ 64 = .ok (.iload_n 1, 1) := by decide +kernel
theorem dX5_readQ_65 : decode cX5_readQ 65 = .ok (.iconst 5, 1) := by decide +kernel
theorem dX5_readQ_66 : decode cX5_readQ 66 = .ok (.if_icmp .ge 29, 3) := by decide +kernel
theorem dX5_readQ_69 : decode cX5_readQ 69 = .ok (.aload_n 0, 1) := by decide +kernel
theorem dX5_readQ_70 : decode cX5_readQ 70 = .ok (.dup, 1) := by decide +kernel
theorem dX5_readQ_71 : decode cX5_readQ 71 = .ok (.getfield 32, 3) := by decide +kernel
theorem dX5_readQ_74 : decode cX5_readQ 74 = .ok (.iconst 1, 1) := by decide +kernel
theorem dX5_readQ_75 : decode cX5_readQ 75 = .ok (.iadd, 1) := by decide +kernel
theorem dX5_readQ_76 : decode cX5_readQ 76 = .ok (.putfield 32, 3) := by decide +kernel
theorem dX5_readQ_79 : decode cX5_readQ 79 = .ok (.aload_n 0, 1) := by decide +kernel
theorem dX5_readQ_80 : decode cX5_readQ 80 = .ok (.iload_n 1, 1) := by decide +kernel
theorem dX5_readQ_81 : decode cX5_readQ 81 = .ok (.iconst 1, 1) := by decide +kernel
theorem dX5_readQ_82 : decode cX5_readQ 82 = .ok (.iadd, 1) := by decide +kernel
theorem dX5_readQ_83 : decode cX5_readQ 83 = .ok (.invokevirtual 76, 3) := by decide +kernel
theorem dX5_readQ_86 : decode cX5_readQ 86 = .ok (.aload_n 0, 1) := by decide +kernel
theorem dX5_readQ_87 : decode cX5_readQ 87 = .ok (.iload_n 2, 1) := by decide +kernel
theorem dX5_readQ_88 : decode cX5_readQ 88 = .ok (.ineg, 1) := by decide +kernel
theorem dX5_readQ_89 : decode cX5_readQ 89 = .ok (.invokevirtual 60, 3) := by decide +kernel
theorem dX5_readQ_92 : decode cX5_readQ 92 = .ok (.goto 51, 3) := by decide +kernel
theorem dX5_readQ_95 : decode cX5_readQ 95 = .ok (.iload_n 2, 1) := by decide +kernel
theorem dX5_readQ_96 : decode cX5_readQ 96 = .ok (.bipush 40, 2) := by decide +kernel
theorem dX5_readQ_98 : decode cX5_readQ 98 = .ok (.if_icmp .ne 41, 3) := by decide +kernel
theorem dX5_readQ_101 : decode cX5_readQ 101 = .ok (.iload_n 1, 1) := by decide +kernel
theorem dX5_readQ_102 : decode cX5_readQ 102 = .ok (.iconst 5, 1) := by decide +kernel
theorem dX5_readQ_103 : decode cX5_readQ 103 = .ok (.if_icmp .ge 36, 3) := by decide +kernel
theorem dX5_readQ_106 : decode cX5_readQ 106 = .ok (.aload_n 0, 1) := by decide +kernel
theorem dX5_readQ_107 : decode cX5_readQ 107 = .ok (.dup, 1) := by decide +kernel
theorem dX5_readQ_108 : decode cX5_readQ 108 = .ok (.getfield 32, 3) := by decide +kernel
theorem dX5_readQ_111 : decode cX5_readQ 111 = .ok (.iconst 1, 1) := by decide +kernel
theorem dX5_readQ_112 : decode cX5_readQ 112 = .ok (.iadd, 1) := by decide +kernel
theorem dX5_readQ_113 : decode cX5_readQ 113 = .ok (.putfield 32, 3) := by decide +kernel
theorem dX5_readQ_116 : decode cX5_readQ 116 = .ok (.aload_n 0, 1) := by decide +kernel
theorem dX5_readQ_117 : decode cX5_readQ 117 = .ok (.iload_n 1, 1) := by decide +kernel
theorem dX5_readQ_118 : decode cX5_readQ 118 = .ok (.iconst 1, 1) := by decide +kernel
theorem dX5_readQ_119 : decode cX5_readQ 119 = .ok (.iadd, 1) := by decide +kernel
theorem dX5_readQ_120 : decode cX5_readQ 120 = .ok (.invokevirtual 41, 3) := by decide +kernel
theorem dX5_readQ_123 : decode cX5_readQ 123 = .ok (.aload_n 0, 1) := by decide +kernel
theorem dX5_readQ_124 : decode cX5_readQ 124 = .ok (.bipush 41, 2) := by decide +kernel
theorem dX5_readQ_126 : decode cX5_readQ 126 = .ok (.invokevirtual 56, 3) := by decide +kernel
theorem dX5_readQ_129 : decode cX5_readQ 129 = .ok (.ifCond .ne 14, 3) := by decide +kernel
theorem dX5_readQ_132 : decode cX5_readQ 132 = .ok (.aload_n 0, 1) := by decide +kernel
theorem dX5_readQ_133 : decode cX5_readQ 133 = .ok (.invokevirtual 45, 3) := by decide +kernel
theorem dX5_readQ_136 : decode cX5_readQ 136 = .ok (.goto 7, 3) := by decide +kernel
theorem dX5_readQ_139 : decode cX5_readQ 139 = .ok (.aload_n 0, 1) := by decide +kernel
theorem dX5_readQ_140 : decode cX5_readQ 140 = .ok (.invokevirtual 45, 3) := by decide +kernel
theorem dX5_readQ_143 : decode cX5_readQ 143 = .ok (.return_, 1) := by decide +kernel
theorem dX5_readNumber_0 : decode cX5_readNumber 0 = .ok (.iconst 0, 1) := by decide +kernel
theorem dX5_readNumber_1 : decode cX5_readNumber 1 = .ok (.istore_n 1, 1) := by decide +kernel
theorem dX5_readNumber_2 : decode cX5_readNumber 2 = .ok (.iconst 0, 1) := by decide +kernel
theorem dX5_readNumber_3 : decode cX5_readNumber 3 = .ok (.istore_n 2, 1) := by decide +kernel
theorem dX5_readNumber_4 : decode cX5_readNumber 4 = .ok (.iload_n 2, 1) := by decide +kernel
theorem dX5_readNumber_5 : decode cX5_readNumber 5 = .ok (.iconst 4, 1) := by decide +kernel
theorem dX5_readNumber_6 : decode cX5_readNumber 6 = .ok (.if_icmp .ge 42, 3) := by decide +kernel
theorem dX5_readNumber_9 : decode cX5_readNumber 9 = .ok (.aload_n 0, 1) := by decide +kernel
theorem dX5_readNumber_10 : decode cX5_readNumber 10 = .ok (.invokevirtual 69, 3) := by decide +kernel
theorem dX5_readNumber_13 : decode cX5_readNumber 13 = .ok (.invokestatic 79, 3) := by decide +kernel
theorem dX5_readNumber_16 : decode cX5_readNumber 16 = .ok (.ifCond .eq 32, 3) := by decide +kernel
theorem dX5_readNumber_19 : decode cX5_readNumber 19 = .ok (.bipush 10, 2) := by decide +kernel
theorem dX5_readNumber_21 : decode cX5_readNumber 21 = .ok (.iload_n 1, 1) := by decide +kernel
theorem dX5_readNumber_22 : decode cX5_readNumber 22 = .ok (.imul, 1) := by decide +kernel
theorem dX5_readNumber_23 : decode cX5_readNumber 23 = .ok (.aload_n 0, 1) := by decide +kernel
theorem dX5_readNumber_24 : decode cX5_readNumber 24 = .ok (.invokevirtual 69, 3) := by decide +kernel
theorem dX5_readNumber_27 : decode cX5_readNumber 27 = .ok (.iadd, 1) := by decide +kernel
theorem dX5_readNumber_28 : decode cX5_readNumber 28 = .ok (.bipush 48, 2) := by decide +kernel
theorem dX5_readNumber_30 : decode cX5_readNumber 30 = .ok (.isub, 1) := by decide +kernel
theorem dX5_readNumber_31 : decode cX5_readNumber 31 = .ok (.istore_n 1, 1) := by decide +kernel
theorem dX5_readNumber_32 : decode cX5_readNumber 32 = .ok (.aload_n 0, 1) := by decide +kernel
theorem dX5_readNumber_33 : decode cX5_readNumber 33 = .ok (.dup, 1) := by decide +kernel
theorem dX5_readNumber_34 : decode cX5_readNumber 34 = .ok (.getfield 32, 3) := by decide +kernel
theorem dX5_readNumber_37 : decode cX5_readNumber 37 = .ok (.iconst 1, 1) := by decide +kernel
theorem dX5_readNumber_38 : decode cX5_readNumber 38 = .ok (.iadd, 1) := by decide +kernel
theorem dX5_readNumber_39 : decode cX5_readNumber 39 = .ok (.putfield 32, 3) := by decide +kernel
theorem dX5_readNumber_42 : decode cX5_readNumber 42 = .ok (.iinc 2 1, 3) := by decide +kernel
theorem dX5_readNumber_45 : decode cX5_readNumber 45 = .ok (.goto (-41), 3) := by decide +kernel
theorem dX5_readNumber_48 : decode cX5_readNumber 48 = .ok (.aload_n 0, 1) := by decide +kernel
theorem dX5_readNumber_49 : decode cX5_readNumber 49 = .ok (.iload_n 1, 1) := by decide +kernel
theorem dX5_readNumber_50 : decode cX5_readNumber 50 = .ok (.invokevirtual 60, 3) := by decide +kernel
theorem dX5_readNumber_53 : decode cX5_readNumber 53 = .ok (.return_, 1) := by decide +kernel
theorem dX5_isDigit_0 : decode cX5_isDigit 0 = .ok (.iload_n 0, 1) := by decide +kernel
theorem dX5_isDigit_1 : decode cX5_isDigit 1 = .ok (.bipush 48, 2) := by decide +kernel
theorem dX5_isDigit_3 : decode cX5_isDigit 3 = .ok (.if_icmp .lt 13, 3) := by decide +kernel
theorem dX5_isDigit_6 : decode cX5_isDigit 6 = .ok (.iload_n 0, 1) := by decide +kernel
theorem dX5_isDigit_7 : decode cX5_isDigit 7 = .ok (.bipush 57, 2) := by decide +kernel
theorem dX5_isDigit_9 : decode cX5_isDigit 9 = .ok (.if_icmp .gt 7, 3) := by decide +kernel
theorem dX5_isDigit_12 : decode cX5_isDigit 12 = .ok (.iconst 1, 1) := by decide +kernel
theorem dX5_isDigit_13 : decode cX5_isDigit 13 = .ok (.goto 4, 3) := by decide +kernel
theorem dX5_isDigit_16 : decode cX5_isDigit 16 = .ok (.iconst 0, 1) := by decide +kernel
theorem dX5_isDigit_17 : decode cX5_isDigit 17 = .ok (.ireturn, 1) := by decide +kernel
theorem dX5_ahead_0 : decode cX5_ahead 0 = .ok (.aload_n 0, 1) := by decide +kernel
theorem dX5_ahead_1 : decode cX5_ahead 1 = .ok (.getfield 38, 3) := by decide +kernel
theorem dX5_ahead_4 : decode cX5_ahead 4 = .ok (.ifCond .ge 30, 3) := by decide +kernel
theorem dX5_ahead_7 : decode cX5_ahead 7 = .ok (.aload_n 0, 1) := by decide +kernel
theorem dX5_ahead_8 : decode cX5_ahead 8 = .ok (.getfield 32, 3) := by decide +kernel
theorem dX5_ahead_11 : decode cX5_ahead 11 = .ok (.aload_n 0, 1) := by decide +kernel
theorem dX5_ahead_12 : decode cX5_ahead 12 = .ok (.getfield 25, 3) := by decide +kernel
theorem dX5_ahead_15 : decode cX5_ahead 15 = .ok (.if_icmp .ge 19, 3) := by decide +kernel
theorem dX5_ahead_18 : decode cX5_ahead 18 = .ok (.aload_n 0, 1) := by decide +kernel
theorem dX5_ahead_19 : decode cX5_ahead 19 = .ok (.getfield 15, 3) := by decide +kernel
theorem dX5_ahead_22 : decode cX5_ahead 22 = .ok (.aload_n 0, 1) := by decide +kernel
theorem dX5_ahead_23 : decode cX5_ahead 23 = .ok (.getfield 32, 3) := by decide +kernel
theorem dX5_ahead_26 : decode cX5_ahead 26 = .ok (.baload, 1) := by decide +kernel
theorem dX5_ahead_27 : decode cX5_ahead 27 = .ok (.sipush 255, 3) := by decide +kernel
theorem dX5_ahead_30 : decode cX5_ahead 30 = .ok (.iand, 1) := by decide +kernel
theorem dX5_ahead_31 : decode cX5_ahead 31 = .ok (.goto 4, 3) := by decide +kernel
theorem dX5_ahead_34 : decode cX5_ahead 34 = .ok (.iconst (-1), 1) := by decide +kernel
theorem dX5_ahead_35 : decode cX5_ahead 35 = .ok (.ireturn, 1) := by decide +kernel
theorem dX5_takes_0 : decode cX5_takes 0 = .ok (.aload_n 0, 1) := by decide +kernel
theorem dX5_takes_1 : decode cX5_takes 1 = .ok (.invokevirtual 69, 3) := by decide +kernel
theorem dX5_takes_4 : decode cX5_takes 4 = .ok (.iload_n 1, 1) := by decide +kernel
theorem dX5_takes_5 : decode cX5_takes 5 = .ok (.if_icmp .eq 5, 3) := by decide +kernel
theorem dX5_takes_8 : decode cX5_takes 8 = .ok (.iconst 0, 1) := by decide +kernel
theorem dX5_takes_9 : decode cX5_takes 9 = .ok (.ireturn, 1) := by decide +kernel
theorem dX5_takes_10 : decode cX5_takes 10 = .ok (.aload_n 0, 1) := by decide +kernel
theorem dX5_takes_11 : decode cX5_takes 11 = .ok (.dup, 1) := by decide +kernel
theorem dX5_takes_12 : decode cX5_takes 12 = .ok (.getfield 32, 3) := by decide +kernel
theorem dX5_takes_15 : decode cX5_takes 15 = .ok (.iconst 1, 1) := by decide +kernel
theorem dX5_takes_16 : decode cX5_takes 16 = .ok (.iadd, 1) := by decide +kernel
theorem dX5_takes_17 : decode cX5_takes 17 = .ok (.putfield 32, 3) := by decide +kernel
theorem dX5_takes_20 : decode cX5_takes 20 = .ok (.iconst 1, 1) := by decide +kernel
theorem dX5_takes_21 : decode cX5_takes 21 = .ok (.ireturn, 1) := by decide +kernel
theorem dX5_step_0 : decode cX5_step 0 = .ok (.aload_n 0, 1) := by decide +kernel
theorem dX5_step_1 : decode cX5_step 1 = .ok (.getfield 38, 3) := by decide +kernel
theorem dX5_step_4 : decode cX5_step 4 = .ok (.ifCond .ge 35, 3) := by decide +kernel
theorem dX5_step_7 : decode cX5_step 7 = .ok (.aload_n 0, 1) := by decide +kernel
theorem dX5_step_8 : decode cX5_step 8 = .ok (.getfield 35, 3) := by decide +kernel
theorem dX5_step_11 : decode cX5_step 11 = .ok (.aload_n 0, 1) := by decide +kernel
theorem dX5_step_12 : decode cX5_step 12 = .ok (.getfield 9, 3) := by decide +kernel
theorem dX5_step_15 : decode cX5_step 15 = .ok (.arraylength, 1) := by decide +kernel
theorem dX5_step_16 : decode cX5_step 16 = .ok (.if_icmp .ge 23, 3) := by decide +kernel
theorem dX5_step_19 : decode cX5_step 19 = .ok (.aload_n 0, 1) := by decide +kernel
theorem dX5_step_20 : decode cX5_step 20 = .ok (.getfield 9, 3) := by decide +kernel
theorem dX5_step_23 : decode cX5_step 23 = .ok (.aload_n 0, 1) := by decide +kernel
theorem dX5_step_24 : decode cX5_step 24 = .ok (.getfield 35, 3) := by decide +kernel
theorem dX5_step_27 : decode cX5_step 27 = .ok (.iload_n 1, 1) := by decide +kernel
theorem dX5_step_28 : decode cX5_step 28 = .ok (.iastore, 1) := by decide +kernel
theorem dX5_step_29 : decode cX5_step 29 = .ok (.aload_n 0, 1) := by decide +kernel
theorem dX5_step_30 : decode cX5_step 30 = .ok (.dup, 1) := by decide +kernel
theorem dX5_step_31 : decode cX5_step 31 = .ok (.getfield 35, 3) := by decide +kernel
theorem dX5_step_34 : decode cX5_step 34 = .ok (.iconst 1, 1) := by decide +kernel
theorem dX5_step_35 : decode cX5_step 35 = .ok (.iadd, 1) := by decide +kernel
theorem dX5_step_36 : decode cX5_step 36 = .ok (.putfield 35, 3) := by decide +kernel
theorem dX5_step_39 : decode cX5_step 39 = .ok (.return_, 1) := by decide +kernel
theorem dX5_fail_0 : decode cX5_fail 0 = .ok (.aload_n 0, 1) := by decide +kernel
theorem dX5_fail_1 : decode cX5_fail 1 = .ok (.getfield 38, 3) := by decide +kernel
theorem dX5_fail_4 : decode cX5_fail 4 = .ok (.ifCond .ge 11, 3) := by decide +kernel
theorem dX5_fail_7 : decode cX5_fail 7 = .ok (.aload_n 0, 1) := by decide +kernel
theorem dX5_fail_8 : decode cX5_fail 8 = .ok (.aload_n 0, 1) := by decide +kernel
theorem dX5_fail_9 : decode cX5_fail 9 = .ok (.getfield 32, 3) := by decide +kernel
theorem dX5_fail_12 : decode cX5_fail 12 = .ok (.putfield 38, 3) := by decide +kernel
theorem dX5_fail_15 : decode cX5_fail 15 = .ok (.return_, 1) := by decide +kernel
theorem dX6_init_0 : decode cX6_init 0 = .ok (.aload_n 0, 1) := by decide +kernel
theorem dX6_init_1 : decode cX6_init 1 = .ok (.invokespecial 3, 3) := by decide +kernel
theorem dX6_init_4 : decode cX6_init 4 = .ok (.aload_n 0, 1) := by decide +kernel
theorem dX6_init_5 : decode cX6_init 5 = .ok (.bipush 30, 2) := by decide +kernel
theorem dX6_init_7 : decode cX6_init 7 = .ok (.newarray .int, 2) := by decide +kernel
theorem dX6_init_9 : decode cX6_init 9 = .ok (.putfield 9, 3) := by decide +kernel
theorem dX6_init_12 : decode cX6_init 12 = .ok (.return_, 1) := by decide +kernel
theorem dX6_speak_0 : decode cX6_speak 0 = .ok (.aload_n 0, 1) := by decide +kernel
theorem dX6_speak_1 : decode cX6_speak 1 = .ok (.iload_n 1, 1) := by decide +kernel
theorem dX6_speak_2 : decode cX6_speak 2 = .ok (.putfield 15, 3) := by decide +kernel
theorem dX6_speak_5 : decode cX6_speak 5 = .ok (.aload_n 0, 1) := by decide +kernel
theorem dX6_speak_6 : decode cX6_speak 6 = .ok (.iload_n 2, 1) := by decide +kernel
theorem dX6_speak_7 : decode cX6_speak 7 = .ok (.putfield 19, 3) := by decide +kernel
theorem dX6_speak_10 : decode cX6_speak 10 = .ok (.aload_n 0, 1) := by decide +kernel
theorem dX6_speak_11 : decode cX6_speak 11 = .ok (.iload_n 3, 1) := by decide +kernel
theorem dX6_speak_12 : decode cX6_speak 12 = .ok (.putfield 22, 3) := by decide +kernel
theorem dX6_speak_15 : decode cX6_speak 15 = .ok (.aload_n 0, 1) := by decide +kernel
theorem dX6_speak_16 : decode cX6_speak 16 = .ok (.iconst 0, 1) := by decide +kernel
theorem dX6_speak_17 : decode cX6_speak 17 = .ok (.putfield 25, 3) := by decide +kernel
theorem dX6_speak_20 : decode cX6_speak 20 = .ok (.aload_n 0, 1) := by decide +kernel
theorem dX6_speak_21 : decode cX6_speak 21 = .ok (.iconst 0, 1) := by decide +kernel
theorem dX6_speak_22 : decode cX6_speak 22 = .ok (.putfield 28, 3) := by decide +kernel
theorem dX6_speak_25 : decode cX6_speak 25 = .ok (.aload_n 0, 1) := by decide +kernel
theorem dX6_speak_26 : decode cX6_speak 26 = .ok (.aload_n 0, 1) := by decide +kernel
theorem dX6_speak_27 : decode cX6_speak 27 = .ok (.getfield 15, 3) := by decide +kernel
theorem dX6_speak_30 : decode cX6_speak 30 = .ok (.iload 4, 2) := by decide +kernel
theorem dX6_speak_32 : decode cX6_speak 32 = .ok (.iload 5, 2) := by decide +kernel
theorem dX6_speak_34 : decode cX6_speak 34 = .ok (.iconst 0, 1) := by decide +kernel
theorem dX6_speak_35 : decode cX6_speak 35 = .ok (.invokevirtual 32, 3) := by decide +kernel
theorem dX6_speak_38 : decode cX6_speak 38 = .ok (.ireturn, 1) := by decide +kernel
theorem dX6_own_0 : decode cX6_own 0 = .ok (.aload_n 0, 1) := by decide +kernel
theorem dX6_own_1 : decode cX6_own 1 = .ok (.aload_n 0, 1) := by decide +kernel
theorem dX6_own_2 : decode cX6_own 2 = .ok (.getfield 15, 3) := by decide +kernel
theorem dX6_own_5 : decode cX6_own 5 = .ok (.iload_n 1, 1) := by decide +kernel
theorem dX6_own_6 : decode cX6_own 6 = .ok (.iload_n 2, 1) := by decide +kernel
theorem dX6_own_7 : decode cX6_own 7 = .ok (.iload_n 3, 1) := by decide +kernel
theorem dX6_own_8 : decode cX6_own 8 = .ok (.invokevirtual 32, 3) := by decide +kernel
theorem dX6_own_11 : decode cX6_own 11 = .ok (.ireturn, 1) := by decide +kernel
theorem dX6_above_0 : decode cX6_above 0 = .ok (.aload_n 0, 1) := by decide +kernel
theorem dX6_above_1 : decode cX6_above 1 = .ok (.getstatic 36, 3) := by decide +kernel
theorem dX6_above_4 : decode cX6_above 4 = .ok (.iload_n 1, 1) := by decide +kernel
theorem dX6_above_5 : decode cX6_above 5 = .ok (.bipush 10, 2) := by decide +kernel
theorem dX6_above_7 : decode cX6_above 7 = .ok (.idiv, 1) := by decide +kernel
theorem dX6_above_8 : decode cX6_above 8 = .ok (.iconst 1, 1) := by decide +kernel
theorem dX6_above_9 : decode cX6_above 9 = .ok (.isub, 1) := by decide +kernel
theorem dX6_above_10 : decode cX6_above 10 = .ok (.iaload, 1) := by decide +kernel
theorem dX6_above_11 : decode cX6_above 11 = .ok (.iload_n 2, 1) := by decide +kernel
theorem dX6_above_12 : decode cX6_above 12 = .ok (.iload_n 3, 1) := by decide +kernel
theorem dX6_above_13 : decode cX6_above 13 = .ok (.iload 4, 2) := by decide +kernel
theorem dX6_above_15 : decode cX6_above 15 = .ok (.invokevirtual 32, 3) := by decide +kernel
theorem dX6_above_18 : decode cX6_above 18 = .ok (.ireturn, 1) := by decide +kernel
theorem dX6_speakFrom_0 : decode cX6_speakFrom 0 = .ok (.iload_n 1, 1) := by decide +kernel
theorem dX6_speakFrom_1 : decode cX6_speakFrom 1 = .ok (.istore 5, 2) := by decide +kernel
theorem dX6_speakFrom_3 : decode cX6_speakFrom 3 = .ok (.iconst 0, 1) := by decide +kernel
theorem dX6_speakFrom_4 : decode cX6_speakFrom 4 = .ok (.istore 6, 2) := by decide +kernel
theorem dX6_speakFrom_6 : decode cX6_speakFrom 6 = .ok (.iload 6, 2) := by decide +kernel
theorem dX6_speakFrom_8 : decode cX6_speakFrom 8 = .ok (.bipush 7, 2) := by decide +kernel
theorem dX6_speakFrom_10 : decode cX6_speakFrom 10 = .ok (.if_icmp .ge 51, 3) := by decide +kernel
theorem dX6_speakFrom_13 : decode cX6_speakFrom 13 = .ok (.iload 5, 2) := by decide +kernel
theorem dX6_speakFrom_15 : decode cX6_speakFrom 15 = .ok (.ifCond .lt 46, 3) := by decide +kernel
theorem dX6_speakFrom_18 : decode cX6_speakFrom 18 = .ok (.getstatic 39, 3) := by decide +kernel
theorem dX6_speakFrom_21 : decode cX6_speakFrom 21 = .ok (.iconst 4, 1) := by decide +kernel
theorem dX6_speakFrom_22 : decode cX6_speakFrom 22 = .ok (.iload 5, 2) := by decide +kernel
theorem dX6_speakFrom_24 : decode cX6_speakFrom 24 = .ok (.imul, 1) := by decide +kernel
theorem dX6_speakFrom_25 : decode cX6_speakFrom 25 = .ok (.iload_n 2, 1) := by decide +kernel
theorem dX6_speakFrom_26 : decode cX6_speakFrom 26 = .ok (.iadd, 1) := by decide +kernel
theorem dX6_speakFrom_27 : decode cX6_speakFrom 27 = .ok (.iaload, 1) := by decide +kernel
theorem dX6_speakFrom_28 : decode cX6_speakFrom 28 = .ok (.istore 7, 2) := by decide +kernel
theorem dX6_speakFrom_30 : decode cX6_speakFrom 30 = .ok (.iload 7, 2) := by decide +kernel
theorem dX6_speakFrom_32 : decode cX6_speakFrom 32 = .ok (.ifCond .eq 15, 3) := by decide +kernel
theorem dX6_speakFrom_35 : decode cX6_speakFrom 35 = .ok (.aload_n 0, 1) := by decide +kernel
theorem dX6_speakFrom_36 : decode cX6_speakFrom 36 = .ok (.iload 7, 2) := by decide +kernel
theorem dX6_speakFrom_38 : decode cX6_speakFrom 38 = .ok (.iload_n 3, 1) := by decide +kernel
theorem dX6_speakFrom_39 : decode cX6_speakFrom 39 = .ok (.iload 4, 2) := by decide +kernel
theorem dX6_speakFrom_41 : decode cX6_speakFrom 41 = .ok (.iconst 1, 1) := by decide +kernel
theorem dX6_speakFrom_42 : decode cX6_speakFrom 42 = .ok (.iadd, 1) := by decide +kernel
theorem dX6_speakFrom_43 : decode cX6_speakFrom 43 = .ok (.invokevirtual 42, 3) := by decide +kernel
theorem dX6_speakFrom_46 : decode cX6_speakFrom 46 = .ok (.ireturn, 1) := by decide +kernel
theorem dX6_speakFrom_47 : decode cX6_speakFrom 47 = .ok (.getstatic 36, 3) := by decide +kernel
theorem dX6_speakFrom_50 : decode cX6_speakFrom 50 = .ok (.iload 5, 2) := by decide +kernel
theorem dX6_speakFrom_52 : decode cX6_speakFrom 52 = .ok (.iaload, 1) := by decide +kernel
theorem dX6_speakFrom_53 : decode cX6_speakFrom 53 = .ok (.istore 5, 2) := by decide +kernel
theorem dX6_speakFrom_55 : decode cX6_speakFrom 55 = .ok (.iinc 6 1, 3) := by decide +kernel
theorem dX6_speakFrom_58 : decode cX6_speakFrom 58 = .ok (.goto (-52), 3) := by decide +kernel
theorem dX6_speakFrom_61 : decode cX6_speakFrom 61 = .ok (.iconst 0, 1) := by decide +kernel
theorem dX6_speakFrom_62 : decode cX6_speakFrom 62 = .ok (.ireturn, 1) := by decide +kernel
theorem dX6_run_0 : decode cX6_run 0 = .ok (.aload_n 0, 1) := by decide +kernel
theorem dX6_run_1 : decode cX6_run 1 = .ok (.getfield 28, 3) := by decide +kernel
theorem dX6_run_4 : decode cX6_run 4 = .ok (.ifCond .ne 9, 3) := by decide +kernel
theorem dX6_run_7 : decode cX6_run 7 = .ok (.iload_n 3, 1) := by decide +kernel
theorem dX6_run_8 : decode cX6_run 8 = .ok (.bipush 30, 2) := by decide +kernel
theorem dX6_run_10 : decode cX6_run 10 = .ok (.if_icmp .le 5, 3) := by decide +kernel
theorem dX6_run_13 : decode cX6_run 13 = .ok (.iconst 0, 1) := by decide +kernel
theorem dX6_run_14 : decode cX6_run 14 = .ok (.ireturn, 1) := by decide +kernel
theorem dX6_run_15 : decode cX6_run 15 = .ok (.aload_n 0, 1) := by decide +kernel
theorem dX6_run_16 : decode cX6_run 16 = .ok (.iload_n 1, 1) := by decide +kernel
theorem dX6_run_17 : decode cX6_run 17 = .ok (.invokevirtual 46, 3) := by decide +kernel
theorem dX6_run_20 : decode cX6_run 20 = .ok (.iload_n 1, 1) := by decide +kernel
theorem dX6_run_21 : decode cX6_run 21 = .ok (.lookupswitch 263 #[(10, 115), (11, 122), (12, 132), (13, 145), (20, 160), (21, 172), (30, 189), (40, 200), (50, 211), (51, 222), (60, 236), (70, 247), (71, 249)], 115) := by decide +kernel
theorem dX6_run_136 : decode cX6_run 136 = .ok (.iload_n 2, 1) := by decide +kernel
theorem dX6_run_137 : decode cX6_run 137 = .ok (.aload_n 0, 1) := by decide +kernel
theorem dX6_run_138 : decode cX6_run 138 = .ok (.getfield 19, 3) := by decide +kernel
theorem dX6_run_141 : decode cX6_run 141 = .ok (.iadd, 1) := by decide +kernel
theorem dX6_run_142 : decode cX6_run 142 = .ok (.ireturn, 1) := by decide +kernel
theorem dX6_run_143 : decode cX6_run 143 = .ok (.aload_n 0, 1) := by decide +kernel
theorem dX6_run_144 : decode cX6_run 144 = .ok (.iconst 0, 1) := by decide +kernel
theorem dX6_run_145 : decode cX6_run 145 = .ok (.iload_n 2, 1) := by decide +kernel
theorem dX6_run_146 : decode cX6_run 146 = .ok (.iload_n 3, 1) := by decide +kernel
theorem dX6_run_147 : decode cX6_run 147 = .ok (.invokevirtual 50, 3) := by decide +kernel
theorem dX6_run_150 : decode cX6_run 150 = .ok (.iconst 2, 1) := by decide +kernel
theorem dX6_run_151 : decode cX6_run 151 = .ok (.imul, 1) := by decide +kernel
theorem dX6_run_152 : decode cX6_run 152 = .ok (.ireturn, 1) := by decide +kernel
theorem dX6_run_153 : decode cX6_run 153 = .ok (.aload_n 0, 1) := by decide +kernel
theorem dX6_run_154 : decode cX6_run 154 = .ok (.iconst 1, 1) := by decide +kernel
theorem dX6_run_155 : decode cX6_run 155 = .ok (.iload_n 2, 1) := by decide +kernel
theorem dX6_run_156 : decode cX6_run 156 = .ok (.iload_n 3, 1) := by decide +kernel
theorem dX6_run_157 : decode cX6_run 157 = .ok (.invokevirtual 50, 3) := by decide +kernel
theorem dX6_run_160 : decode cX6_run 160 = .ok (.aload_n 0, 1) := by decide +kernel
theorem dX6_run_161 : decode cX6_run 161 = .ok (.getfield 22, 3) := by decide +kernel
theorem dX6_run_164 : decode cX6_run 164 = .ok (.isub, 1) := by decide +kernel
theorem dX6_run_165 : decode cX6_run 165 = .ok (.ireturn, 1) := by decide +kernel
theorem dX6_run_166 : decode cX6_run 166 = .ok (.aload_n 0, 1) := by decide +kernel
theorem dX6_run_167 : decode cX6_run 167 = .ok (.iload_n 2, 1) := by decide +kernel
theorem dX6_run_168 : decode cX6_run 168 = .ok (.aload_n 0, 1) := by decide +kernel
theorem dX6_run_169 : decode cX6_run 169 = .ok (.getfield 22, 3) := by decide +kernel
theorem dX6_run_172 : decode cX6_run 172 = .ok (.aload_n 0, 1) := by decide +kernel
theorem dX6_run_173 : decode cX6_run 173 = .ok (.getfield 19, 3) := by decide +kernel
theorem dX6_run_176 : decode cX6_run 176 = .ok (.isub, 1) := by decide +kernel
theorem dX6_run_177 : decode cX6_run 177 = .ok (.invokevirtual 53, 3) := by decide +kernel
theorem dX6_run_180 : decode cX6_run 180 = .ok (.ireturn, 1) := by decide +kernel
theorem dX6_run_181 : decode cX6_run 181 = .ok (.aload_n 0, 1) := by decide +kernel
theorem dX6_run_182 : decode cX6_run 182 = .ok (.iload_n 1, 1) := by decide +kernel
theorem dX6_run_183 : decode cX6_run 183 = .ok (.iconst 0, 1) := by decide +kernel
theorem dX6_run_184 : decode cX6_run 184 = .ok (.iload_n 2, 1) := by decide +kernel
theorem dX6_run_185 : decode cX6_run 185 = .ok (.iload_n 3, 1) := by decide +kernel
theorem dX6_run_186 : decode cX6_run 186 = .ok (.invokevirtual 57, 3) := by decide +kernel
theorem dX6_run_189 : decode cX6_run 189 = .ok (.bipush 6, 2) := by decide +kernel
theorem dX6_run_191 : decode cX6_run 191 = .ok (.isub, 1) := by decide +kernel
theorem dX6_run_192 : decode cX6_run 192 = .ok (.ireturn, 1) := by decide +kernel
theorem dX6_run_193 : decode cX6_run 193 = .ok (.aload_n 0, 1) := by decide +kernel
theorem dX6_run_194 : decode cX6_run 194 = .ok (.iload_n 1, 1) := by decide +kernel
theorem dX6_run_195 : decode cX6_run 195 = .ok (.iconst 3, 1) := by decide +kernel
theorem dX6_run_196 : decode cX6_run 196 = .ok (.iload_n 2, 1) := by decide +kernel
theorem dX6_run_197 : decode cX6_run 197 = .ok (.iload_n 3, 1) := by decide +kernel
theorem dX6_run_198 : decode cX6_run 198 = .ok (.invokevirtual 57, 3) := by decide +kernel
theorem dX6_run_201 : decode cX6_run 201 = .ok (.aload_n 0, 1) := by decide +kernel
theorem dX6_run_202 : decode cX6_run 202 = .ok (.iconst 1, 1) := by decide +kernel
theorem dX6_run_203 : decode cX6_run 203 = .ok (.iconst 1, 1) := by decide +kernel
theorem dX6_run_204 : decode cX6_run 204 = .ok (.iload_n 3, 1) := by decide +kernel
theorem dX6_run_205 : decode cX6_run 205 = .ok (.invokevirtual 50, 3) := by decide +kernel
theorem dX6_run_208 : decode cX6_run 208 = .ok (.iadd, 1) := by decide +kernel
theorem dX6_run_209 : decode cX6_run 209 = .ok (.ireturn, 1) := by decide +kernel
theorem dX6_run_210 : decode cX6_run 210 = .ok (.iconst 0, 1) := by decide +kernel
theorem dX6_run_211 : decode cX6_run 211 = .ok (.aload_n 0, 1) := by decide +kernel
theorem dX6_run_212 : decode cX6_run 212 = .ok (.iload_n 1, 1) := by decide +kernel
theorem dX6_run_213 : decode cX6_run 213 = .ok (.iconst 1, 1) := by decide +kernel
theorem dX6_run_214 : decode cX6_run 214 = .ok (.iload_n 2, 1) := by decide +kernel
theorem dX6_run_215 : decode cX6_run 215 = .ok (.iload_n 3, 1) := by decide +kernel
theorem dX6_run_216 : decode cX6_run 216 = .ok (.invokevirtual 57, 3) := by decide +kernel
theorem dX6_run_219 : decode cX6_run 219 = .ok (.isub, 1) := by decide +kernel
theorem dX6_run_220 : decode cX6_run 220 = .ok (.ireturn, 1) := by decide +kernel
theorem dX6_run_221 : decode cX6_run 221 = .ok (.aload_n 0, 1) := by decide +kernel
theorem dX6_run_222 : decode cX6_run 222 = .ok (.iload_n 1, 1) := by decide +kernel
theorem dX6_run_223 : decode cX6_run 223 = .ok (.iconst 2, 1) := by decide +kernel
theorem dX6_run_224 : decode cX6_run 224 = .ok (.iload_n 2, 1) := by decide +kernel
theorem dX6_run_225 : decode cX6_run 225 = .ok (.iconst 2, 1) := by decide +kernel
theorem dX6_run_226 : decode cX6_run 226 = .ok (.idiv, 1) := by decide +kernel
theorem dX6_run_227 : decode cX6_run 227 = .ok (.iload_n 3, 1) := by decide +kernel
theorem dX6_run_228 : decode cX6_run 228 = .ok (.invokevirtual 57, 3) := by decide +kernel
theorem dX6_run_231 : decode cX6_run 231 = .ok (.ireturn, 1) := by decide +kernel
theorem dX6_run_232 : decode cX6_run 232 = .ok (.aload_n 0, 1) := by decide +kernel
theorem dX6_run_233 : decode cX6_run 233 = .ok (.iload_n 1, 1) := by decide +kernel
theorem dX6_run_234 : decode cX6_run 234 = .ok (.iconst 0, 1) := by decide +kernel
theorem dX6_run_235 : decode cX6_run 235 = .ok (.iload_n 2, 1) := by decide +kernel
theorem dX6_run_236 : decode cX6_run 236 = .ok (.iload_n 3, 1) := by decide +kernel
theorem dX6_run_237 : decode cX6_run 237 = .ok (.invokevirtual 57, 3) := by decide +kernel
theorem dX6_run_240 : decode cX6_run 240 = .ok (.iconst 3, 1) := by decide +kernel
theorem dX6_run_241 : decode cX6_run 241 = .ok (.imul, 1) := by decide +kernel
theorem dX6_run_242 : decode cX6_run 242 = .ok (.ireturn, 1) := by decide +kernel
theorem dX6_run_243 : decode cX6_run 243 = .ok (.aload_n 0, 1) := by decide +kernel
theorem dX6_run_244 : decode cX6_run 244 = .ok (.iload_n 1, 1) := by decide +kernel
theorem dX6_run_245 : decode cX6_run 245 = .ok (.iconst 2, 1) := by decide +kernel
theorem dX6_run_246 : decode cX6_run 246 = .ok (.iload_n 2, 1) := by decide +kernel
theorem dX6_run_247 : decode cX6_run 247 = .ok (.iload_n 3, 1) := by decide +kernel
theorem dX6_run_248 : decode cX6_run 248 = .ok (.invokevirtual 57, 3) := by decide +kernel
theorem dX6_run_251 : decode cX6_run 251 = .ok (.aload_n 0, 1) := by decide +kernel
theorem dX6_run_252 : decode cX6_run 252 = .ok (.getfield 19, 3) := by decide +kernel
theorem dX6_run_255 : decode cX6_run 255 = .ok (.ixor, 1) := by decide +kernel
theorem dX6_run_256 : decode cX6_run 256 = .ok (.ireturn, 1) := by decide +kernel
theorem dX6_run_257 : decode cX6_run 257 = .ok (.aload_n 0, 1) := by decide +kernel
theorem dX6_run_258 : decode cX6_run 258 = .ok (.iload_n 1, 1) := by decide +kernel
theorem dX6_run_259 : decode cX6_run 259 = .ok (.iconst 1, 1) := by decide +kernel
theorem dX6_run_260 : decode cX6_run 260 = .ok (.iload_n 2, 1) := by decide +kernel
theorem dX6_run_261 : decode cX6_run 261 = .ok (.iconst 1, 1) := by decide +kernel
theorem dX6_run_262 : decode cX6_run 262 = .ok (.iadd, 1) := by decide +kernel
theorem dX6_run_263 : decode cX6_run 263 = .ok (.iload_n 3, 1) := by decide +kernel
theorem dX6_run_264 : decode cX6_run 264 = .ok (.invokevirtual 57, 3) := by decide +kernel
theorem dX6_run_267 : decode cX6_run 267 = .ok (.ireturn, 1) := by decide +kernel
theorem dX6_run_268 : decode cX6_run 268 = .ok (.iconst 5, 1) := by decide +kernel
theorem dX6_run_269 : decode cX6_run 269 = .ok (.ireturn, 1) := by decide +kernel
theorem dX6_run_270 : decode cX6_run 270 = .ok (.aload_n 0, 1) := by decide +kernel
theorem dX6_run_271 : decode cX6_run 271 = .ok (.iload_n 1, 1) := by decide +kernel
theorem dX6_run_272 : decode cX6_run 272 = .ok (.iconst 1, 1) := by decide +kernel
theorem dX6_run_273 : decode cX6_run 273 = .ok (.iload_n 2, 1) := by decide +kernel
theorem dX6_run_274 : decode cX6_run 274 = .ok (.iload_n 3, 1) := by decide +kernel
theorem dX6_run_275 : decode cX6_run 275 = .ok (.invokevirtual 57, 3) := by decide +kernel
theorem dX6_run_278 : decode cX6_run 278 = .ok (.aload_n 0, 1) := by decide +kernel
theorem dX6_run_279 : decode cX6_run 279 = .ok (.getfield 22, 3) := by decide +kernel
theorem dX6_run_282 : decode cX6_run 282 = .ok (.iadd, 1) := by decide +kernel
theorem dX6_run_283 : decode cX6_run 283 = .ok (.ireturn, 1) := by decide +kernel
theorem dX6_run_284 : decode cX6_run 284 = .ok (.iconst 0, 1) := by decide +kernel
theorem dX6_run_285 : decode cX6_run 285 = .ok (.ireturn, 1) := by decide +kernel
theorem dX6_begin_0 : decode cX6_begin 0 = .ok (.aload_n 0, 1) := by decide +kernel
theorem dX6_begin_1 : decode cX6_begin 1 = .ok (.getfield 25, 3) := by decide +kernel
theorem dX6_begin_4 : decode cX6_begin 4 = .ok (.bipush 30, 2) := by decide +kernel
theorem dX6_begin_6 : decode cX6_begin 6 = .ok (.if_icmp .ge 23, 3) := by decide +kernel
theorem dX6_begin_9 : decode cX6_begin 9 = .ok (.aload_n 0, 1) := by decide +kernel
theorem dX6_begin_10 : decode cX6_begin 10 = .ok (.getfield 9, 3) := by decide +kernel
theorem dX6_begin_13 : decode cX6_begin 13 = .ok (.aload_n 0, 1) := by decide +kernel
theorem dX6_begin_14 : decode cX6_begin 14 = .ok (.getfield 25, 3) := by decide +kernel
theorem dX6_begin_17 : decode cX6_begin 17 = .ok (.iload_n 1, 1) := by decide +kernel
theorem dX6_begin_18 : decode cX6_begin 18 = .ok (.iastore, 1) := by decide +kernel
theorem dX6_begin_19 : decode cX6_begin 19 = .ok (.aload_n 0, 1) := by decide +kernel
theorem dX6_begin_20 : decode cX6_begin 20 = .ok (.dup, 1) := by decide +kernel
theorem dX6_begin_21 : decode cX6_begin 21 = .ok (.getfield 25, 3) := by decide +kernel
theorem dX6_begin_24 : decode cX6_begin 24 = .ok (.iconst 1, 1) := by decide +kernel
theorem dX6_begin_25 : decode cX6_begin 25 = .ok (.iadd, 1) := by decide +kernel
theorem dX6_begin_26 : decode cX6_begin 26 = .ok (.putfield 25, 3) := by decide +kernel
theorem dX6_begin_29 : decode cX6_begin 29 = .ok (.return_, 1) := by decide +kernel
theorem dX6_part_0 : decode cX6_part 0 = .ok (.iload_n 2, 1) := by decide +kernel
theorem dX6_part_1 : decode cX6_part 1 = .ok (.ifCond .ne 10, 3) := by decide +kernel
theorem dX6_part_4 : decode cX6_part 4 = .ok (.aload_n 0, 1) := by decide +kernel
theorem dX6_part_5 : decode cX6_part 5 = .ok (.iconst 1, 1) := by decide +kernel
theorem dX6_part_6 : decode cX6_part 6 = .ok (.putfield 28, 3) := by decide +kernel
theorem dX6_part_9 : decode cX6_part 9 = .ok (.iconst 0, 1) := by decide +kernel
theorem dX6_part_10 : decode cX6_part 10 = .ok (.ireturn, 1) := by decide +kernel
theorem dX6_part_11 : decode cX6_part 11 = .ok (.iload_n 1, 1) := by decide +kernel
theorem dX6_part_12 : decode cX6_part 12 = .ok (.iload_n 2, 1) := by decide +kernel
theorem dX6_part_13 : decode cX6_part 13 = .ok (.idiv, 1) := by decide +kernel
theorem dX6_part_14 : decode cX6_part 14 = .ok (.ireturn, 1) := by decide +kernel
theorem dJ6_bitCount_0f7a4_0 : decode cJ6_bitCount_0f7a4 0 = .ok (.iload_n 0, 1) := by decide +kernel
theorem dJ6_bitCount_0f7a4_1 : decode cJ6_bitCount_0f7a4 1 = .ok (.iload_n 0, 1) := by decide +kernel
theorem dJ6_bitCount_0f7a4_2 : decode cJ6_bitCount_0f7a4 2 = .ok (.iconst 1, 1) := by decide +kernel
theorem dJ6_bitCount_0f7a4_3 : decode cJ6_bitCount_0f7a4 3 = .ok (.iushr, 1) := by decide +kernel
theorem dJ6_bitCount_0f7a4_4 : decode cJ6_bitCount_0f7a4 4 = .ok (.ldc_w 265, 3) := by decide +kernel
theorem dJ6_bitCount_0f7a4_7 : decode cJ6_bitCount_0f7a4 7 = .ok (.iand, 1) := by decide +kernel
theorem dJ6_bitCount_0f7a4_8 : decode cJ6_bitCount_0f7a4 8 = .ok (.isub, 1) := by decide +kernel
theorem dJ6_bitCount_0f7a4_9 : decode cJ6_bitCount_0f7a4 9 = .ok (.istore_n 0, 1) := by decide +kernel
theorem dJ6_bitCount_0f7a4_10 : decode cJ6_bitCount_0f7a4 10 = .ok (.iload_n 0, 1) := by decide +kernel
theorem dJ6_bitCount_0f7a4_11 : decode cJ6_bitCount_0f7a4 11 = .ok (.ldc_w 266, 3) := by decide +kernel
theorem dJ6_bitCount_0f7a4_14 : decode cJ6_bitCount_0f7a4 14 = .ok (.iand, 1) := by decide +kernel
theorem dJ6_bitCount_0f7a4_15 : decode cJ6_bitCount_0f7a4 15 = .ok (.iload_n 0, 1) := by decide +kernel
theorem dJ6_bitCount_0f7a4_16 : decode cJ6_bitCount_0f7a4 16 = .ok (.iconst 2, 1) := by decide +kernel
theorem dJ6_bitCount_0f7a4_17 : decode cJ6_bitCount_0f7a4 17 = .ok (.iushr, 1) := by decide +kernel
theorem dJ6_bitCount_0f7a4_18 : decode cJ6_bitCount_0f7a4 18 = .ok (.ldc_w 266, 3) := by decide +kernel
theorem dJ6_bitCount_0f7a4_21 : decode cJ6_bitCount_0f7a4 21 = .ok (.iand, 1) := by decide +kernel
theorem dJ6_bitCount_0f7a4_22 : decode cJ6_bitCount_0f7a4 22 = .ok (.iadd, 1) := by decide +kernel
theorem dJ6_bitCount_0f7a4_23 : decode cJ6_bitCount_0f7a4 23 = .ok (.istore_n 0, 1) := by decide +kernel
theorem dJ6_bitCount_0f7a4_24 : decode cJ6_bitCount_0f7a4 24 = .ok (.iload_n 0, 1) := by decide +kernel
theorem dJ6_bitCount_0f7a4_25 : decode cJ6_bitCount_0f7a4 25 = .ok (.iload_n 0, 1) := by decide +kernel
theorem dJ6_bitCount_0f7a4_26 : decode cJ6_bitCount_0f7a4 26 = .ok (.iconst 4, 1) := by decide +kernel
theorem dJ6_bitCount_0f7a4_27 : decode cJ6_bitCount_0f7a4 27 = .ok (.iushr, 1) := by decide +kernel
theorem dJ6_bitCount_0f7a4_28 : decode cJ6_bitCount_0f7a4 28 = .ok (.iadd, 1) := by decide +kernel
theorem dJ6_bitCount_0f7a4_29 : decode cJ6_bitCount_0f7a4 29 = .ok (.ldc_w 267, 3) := by decide +kernel
theorem dJ6_bitCount_0f7a4_32 : decode cJ6_bitCount_0f7a4 32 = .ok (.iand, 1) := by decide +kernel
theorem dJ6_bitCount_0f7a4_33 : decode cJ6_bitCount_0f7a4 33 = .ok (.istore_n 0, 1) := by decide +kernel
theorem dJ6_bitCount_0f7a4_34 : decode cJ6_bitCount_0f7a4 34 = .ok (.iload_n 0, 1) := by decide +kernel
theorem dJ6_bitCount_0f7a4_35 : decode cJ6_bitCount_0f7a4 35 = .ok (.iload_n 0, 1) := by decide +kernel
theorem dJ6_bitCount_0f7a4_36 : decode cJ6_bitCount_0f7a4 36 = .ok (.bipush 8, 2) := by decide +kernel
theorem dJ6_bitCount_0f7a4_38 : decode cJ6_bitCount_0f7a4 38 = .ok (.iushr, 1) := by decide +kernel
theorem dJ6_bitCount_0f7a4_39 : decode cJ6_bitCount_0f7a4 39 = .ok (.iadd, 1) := by decide +kernel
theorem dJ6_bitCount_0f7a4_40 : decode cJ6_bitCount_0f7a4 40 = .ok (.istore_n 0, 1) := by decide +kernel
theorem dJ6_bitCount_0f7a4_41 : decode cJ6_bitCount_0f7a4 41 = .ok (.iload_n 0, 1) := by decide +kernel
theorem dJ6_bitCount_0f7a4_42 : decode cJ6_bitCount_0f7a4 42 = .ok (.iload_n 0, 1) := by decide +kernel
theorem dJ6_bitCount_0f7a4_43 : decode cJ6_bitCount_0f7a4 43 = .ok (.bipush 16, 2) := by decide +kernel
theorem dJ6_bitCount_0f7a4_45 : decode cJ6_bitCount_0f7a4 45 = .ok (.iushr, 1) := by decide +kernel
theorem dJ6_bitCount_0f7a4_46 : decode cJ6_bitCount_0f7a4 46 = .ok (.iadd, 1) := by decide +kernel
theorem dJ6_bitCount_0f7a4_47 : decode cJ6_bitCount_0f7a4 47 = .ok (.istore_n 0, 1) := by decide +kernel
theorem dJ6_bitCount_0f7a4_48 : decode cJ6_bitCount_0f7a4 48 = .ok (.iload_n 0, 1) := by decide +kernel
theorem dJ6_bitCount_0f7a4_49 : decode cJ6_bitCount_0f7a4 49 = .ok (.bipush 63, 2) := by decide +kernel
theorem dJ6_bitCount_0f7a4_51 : decode cJ6_bitCount_0f7a4 51 = .ok (.iand, 1) := by decide +kernel
theorem dJ6_bitCount_0f7a4_52 : decode cJ6_bitCount_0f7a4 52 = .ok (.ireturn, 1) := by decide +kernel
