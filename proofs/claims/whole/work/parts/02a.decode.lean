theorem dd_G_init_0 : decode bc_G_init 0 = .ok (.aload_n 0, 1) := by decide +kernel
theorem dd_G_init_1 : decode bc_G_init 1 = .ok (.invokespecial 3, 3) := by decide +kernel
theorem dd_G_init_4 : decode bc_G_init 4 = .ok (.aload_n 0, 1) := by decide +kernel
theorem dd_G_init_5 : decode bc_G_init 5 = .ok (.sipush 5040, 3) := by decide +kernel
theorem dd_G_init_8 : decode bc_G_init 8 = .ok (.newarray .int, 2) := by decide +kernel
theorem dd_G_init_10 : decode bc_G_init 10 = .ok (.putfield 9, 3) := by decide +kernel
theorem dd_G_init_13 : decode bc_G_init 13 = .ok (.aload_n 0, 1) := by decide +kernel
theorem dd_G_init_14 : decode bc_G_init 14 = .ok (.bipush 12, 2) := by decide +kernel
theorem dd_G_init_16 : decode bc_G_init 16 = .ok (.newarray .int, 2) := by decide +kernel
theorem dd_G_init_18 : decode bc_G_init 18 = .ok (.putfield 15, 3) := by decide +kernel
theorem dd_G_init_21 : decode bc_G_init 21 = .ok (.aload_n 0, 1) := by decide +kernel
theorem dd_G_init_22 : decode bc_G_init 22 = .ok (.sipush 158, 3) := by decide +kernel
theorem dd_G_init_25 : decode bc_G_init 25 = .ok (.newarray .int, 2) := by decide +kernel
theorem dd_G_init_27 : decode bc_G_init 27 = .ok (.putfield 18, 3) := by decide +kernel
theorem dd_G_init_30 : decode bc_G_init 30 = .ok (.aload_n 0, 1) := by decide +kernel
theorem dd_G_init_31 : decode bc_G_init 31 = .ok (.invokevirtual 21, 3) := by decide +kernel
theorem dd_G_init_34 : decode bc_G_init 34 = .ok (.return_, 1) := by decide +kernel
theorem dd_G_makeStill_0 : decode bc_G_makeStill 0 = .ok (.iconst 0, 1) := by decide +kernel
theorem dd_G_makeStill_1 : decode bc_G_makeStill 1 = .ok (.istore_n 1, 1) := by decide +kernel
theorem dd_G_makeStill_2 : decode bc_G_makeStill 2 = .ok (.iload_n 1, 1) := by decide +kernel
theorem dd_G_makeStill_3 : decode bc_G_makeStill 3 = .ok (.aload_n 0, 1) := by decide +kernel
theorem dd_G_makeStill_4 : decode bc_G_makeStill 4 = .ok (.getfield 18, 3) := by decide +kernel
theorem dd_G_makeStill_7 : decode bc_G_makeStill 7 = .ok (.arraylength, 1) := by decide +kernel
theorem dd_G_makeStill_8 : decode bc_G_makeStill 8 = .ok (.if_icmp .ge 16, 3) := by decide +kernel
theorem dd_G_makeStill_11 : decode bc_G_makeStill 11 = .ok (.aload_n 0, 1) := by decide +kernel
theorem dd_G_makeStill_12 : decode bc_G_makeStill 12 = .ok (.getfield 18, 3) := by decide +kernel
theorem dd_G_makeStill_15 : decode bc_G_makeStill 15 = .ok (.iload_n 1, 1) := by decide +kernel
theorem dd_G_makeStill_16 : decode bc_G_makeStill 16 = .ok (.iconst 0, 1) := by decide +kernel
theorem dd_G_makeStill_17 : decode bc_G_makeStill 17 = .ok (.iastore, 1) := by decide +kernel
theorem dd_G_makeStill_18 : decode bc_G_makeStill 18 = .ok (.iinc 1 1, 3) := by decide +kernel
theorem dd_G_makeStill_21 : decode bc_G_makeStill 21 = .ok (.goto (-19), 3) := by decide +kernel
theorem dd_G_makeStill_24 : decode bc_G_makeStill 24 = .ok (.aload_n 0, 1) := by decide +kernel
theorem dd_G_makeStill_25 : decode bc_G_makeStill 25 = .ok (.iconst 0, 1) := by decide +kernel
theorem dd_G_makeStill_26 : decode bc_G_makeStill 26 = .ok (.putfield 24, 3) := by decide +kernel
theorem dd_G_makeStill_29 : decode bc_G_makeStill 29 = .ok (.aload_n 0, 1) := by decide +kernel
theorem dd_G_makeStill_30 : decode bc_G_makeStill 30 = .ok (.iconst 0, 1) := by decide +kernel
theorem dd_G_makeStill_31 : decode bc_G_makeStill 31 = .ok (.putfield 28, 3) := by decide +kernel
theorem dd_G_makeStill_34 : decode bc_G_makeStill 34 = .ok (.aload_n 0, 1) := by decide +kernel
theorem dd_G_makeStill_35 : decode bc_G_makeStill 35 = .ok (.ldc 31, 2) := by decide +kernel
theorem dd_G_makeStill_37 : decode bc_G_makeStill 37 = .ok (.invokevirtual 32, 3) := by decide +kernel
theorem dd_G_makeStill_40 : decode bc_G_makeStill 40 = .ok (.return_, 1) := by decide +kernel
theorem dd_G_copyFrom_0 : decode bc_G_copyFrom 0 = .ok (.aload_n 1, 1) := by decide +kernel
theorem dd_G_copyFrom_1 : decode bc_G_copyFrom 1 = .ok (.getfield 9, 3) := by decide +kernel
theorem dd_G_copyFrom_4 : decode bc_G_copyFrom 4 = .ok (.iconst 0, 1) := by decide +kernel
theorem dd_G_copyFrom_5 : decode bc_G_copyFrom 5 = .ok (.aload_n 0, 1) := by decide +kernel
theorem dd_G_copyFrom_6 : decode bc_G_copyFrom 6 = .ok (.getfield 9, 3) := by decide +kernel
theorem dd_G_copyFrom_9 : decode bc_G_copyFrom 9 = .ok (.iconst 0, 1) := by decide +kernel
theorem dd_G_copyFrom_10 : decode bc_G_copyFrom 10 = .ok (.aload_n 0, 1) := by decide +kernel
theorem dd_G_copyFrom_11 : decode bc_G_copyFrom 11 = .ok (.getfield 9, 3) := by decide +kernel
theorem dd_G_copyFrom_14 : decode bc_G_copyFrom 14 = .ok (.arraylength, 1) := by decide +kernel
theorem dd_G_copyFrom_15 : decode bc_G_copyFrom 15 = .ok (.invokestatic 36, 3) := by decide +kernel
theorem dd_G_copyFrom_18 : decode bc_G_copyFrom 18 = .ok (.aload_n 0, 1) := by decide +kernel
theorem dd_G_copyFrom_19 : decode bc_G_copyFrom 19 = .ok (.aload_n 1, 1) := by decide +kernel
theorem dd_G_copyFrom_20 : decode bc_G_copyFrom 20 = .ok (.getfield 28, 3) := by decide +kernel
theorem dd_G_copyFrom_23 : decode bc_G_copyFrom 23 = .ok (.putfield 28, 3) := by decide +kernel
theorem dd_G_copyFrom_26 : decode bc_G_copyFrom 26 = .ok (.aload_n 1, 1) := by decide +kernel
theorem dd_G_copyFrom_27 : decode bc_G_copyFrom 27 = .ok (.getfield 15, 3) := by decide +kernel
theorem dd_G_copyFrom_30 : decode bc_G_copyFrom 30 = .ok (.iconst 0, 1) := by decide +kernel
theorem dd_G_copyFrom_31 : decode bc_G_copyFrom 31 = .ok (.aload_n 0, 1) := by decide +kernel
theorem dd_G_copyFrom_32 : decode bc_G_copyFrom 32 = .ok (.getfield 15, 3) := by decide +kernel
theorem dd_G_copyFrom_35 : decode bc_G_copyFrom 35 = .ok (.iconst 0, 1) := by decide +kernel
theorem dd_G_copyFrom_36 : decode bc_G_copyFrom 36 = .ok (.aload_n 0, 1) := by decide +kernel
theorem dd_G_copyFrom_37 : decode bc_G_copyFrom 37 = .ok (.getfield 15, 3) := by decide +kernel
theorem dd_G_copyFrom_40 : decode bc_G_copyFrom 40 = .ok (.arraylength, 1) := by decide +kernel
theorem dd_G_copyFrom_41 : decode bc_G_copyFrom 41 = .ok (.invokestatic 36, 3) := by decide +kernel
theorem dd_G_copyFrom_44 : decode bc_G_copyFrom 44 = .ok (.aload_n 0, 1) := by decide +kernel
theorem dd_G_copyFrom_45 : decode bc_G_copyFrom 45 = .ok (.aload_n 1, 1) := by decide +kernel
theorem dd_G_copyFrom_46 : decode bc_G_copyFrom 46 = .ok (.getfield 24, 3) := by decide +kernel
theorem dd_G_copyFrom_49 : decode bc_G_copyFrom 49 = .ok (.putfield 24, 3) := by decide +kernel
theorem dd_G_copyFrom_52 : decode bc_G_copyFrom 52 = .ok (.aload_n 1, 1) := by decide +kernel
theorem dd_G_copyFrom_53 : decode bc_G_copyFrom 53 = .ok (.getfield 18, 3) := by decide +kernel
theorem dd_G_copyFrom_56 : decode bc_G_copyFrom 56 = .ok (.iconst 0, 1) := by decide +kernel
theorem dd_G_copyFrom_57 : decode bc_G_copyFrom 57 = .ok (.aload_n 0, 1) := by decide +kernel
theorem dd_G_copyFrom_58 : decode bc_G_copyFrom 58 = .ok (.getfield 18, 3) := by decide +kernel
theorem dd_G_copyFrom_61 : decode bc_G_copyFrom 61 = .ok (.iconst 0, 1) := by decide +kernel
theorem dd_G_copyFrom_62 : decode bc_G_copyFrom 62 = .ok (.aload_n 0, 1) := by decide +kernel
theorem dd_G_copyFrom_63 : decode bc_G_copyFrom 63 = .ok (.getfield 18, 3) := by decide +kernel
theorem dd_G_copyFrom_66 : decode bc_G_copyFrom 66 = .ok (.arraylength, 1) := by decide +kernel
theorem dd_G_copyFrom_67 : decode bc_G_copyFrom 67 = .ok (.invokestatic 36, 3) := by decide +kernel
theorem dd_G_copyFrom_70 : decode bc_G_copyFrom 70 = .ok (.return_, 1) := by decide +kernel
theorem dd_G_has_0 : decode bc_G_has 0 = .ok (.iload_n 1, 1) := by decide +kernel
theorem dd_G_has_1 : decode bc_G_has 1 = .ok (.invokestatic 42, 3) := by decide +kernel
theorem dd_G_has_4 : decode bc_G_has 4 = .ok (.istore_n 2, 1) := by decide +kernel
theorem dd_G_has_5 : decode bc_G_has 5 = .ok (.iload_n 2, 1) := by decide +kernel
theorem dd_G_has_6 : decode bc_G_has 6 = .ok (.invokestatic 48, 3) := by decide +kernel
theorem dd_G_has_9 : decode bc_G_has 9 = .ok (.ifCond .eq 26, 3) := by decide +kernel
theorem dd_G_has_12 : decode bc_G_has 12 = .ok (.aload_n 0, 1) := by decide +kernel
theorem dd_G_has_13 : decode bc_G_has 13 = .ok (.getfield 18, 3) := by decide +kernel
theorem dd_G_has_16 : decode bc_G_has 16 = .ok (.iload_n 2, 1) := by decide +kernel
theorem dd_G_has_17 : decode bc_G_has 17 = .ok (.iconst 5, 1) := by decide +kernel
theorem dd_G_has_18 : decode bc_G_has 18 = .ok (.ishr, 1) := by decide +kernel
theorem dd_G_has_19 : decode bc_G_has 19 = .ok (.iaload, 1) := by decide +kernel
theorem dd_G_has_20 : decode bc_G_has 20 = .ok (.iload_n 2, 1) := by decide +kernel
theorem dd_G_has_21 : decode bc_G_has 21 = .ok (.bipush 31, 2) := by decide +kernel
theorem dd_G_has_23 : decode bc_G_has 23 = .ok (.iand, 1) := by decide +kernel
theorem dd_G_has_24 : decode bc_G_has 24 = .ok (.ishr, 1) := by decide +kernel
theorem dd_G_has_25 : decode bc_G_has 25 = .ok (.iconst 1, 1) := by decide +kernel
theorem dd_G_has_26 : decode bc_G_has 26 = .ok (.iand, 1) := by decide +kernel
theorem dd_G_has_27 : decode bc_G_has 27 = .ok (.iconst 1, 1) := by decide +kernel
theorem dd_G_has_28 : decode bc_G_has 28 = .ok (.if_icmp .ne 7, 3) := by decide +kernel
theorem dd_G_has_31 : decode bc_G_has 31 = .ok (.iconst 1, 1) := by decide +kernel
theorem dd_G_has_32 : decode bc_G_has 32 = .ok (.goto 4, 3) := by decide +kernel
theorem dd_G_has_35 : decode bc_G_has 35 = .ok (.iconst 0, 1) := by decide +kernel
theorem dd_G_has_36 : decode bc_G_has 36 = .ok (.ireturn, 1) := by decide +kernel
theorem dd_G_isRank_0 : decode bc_G_isRank 0 = .ok (.iload_n 0, 1) := by decide +kernel
theorem dd_G_isRank_1 : decode bc_G_isRank 1 = .ok (.iconst 0, 1) := by decide +kernel
theorem dd_G_isRank_2 : decode bc_G_isRank 2 = .ok (.sipush 5039, 3) := by decide +kernel
theorem dd_G_isRank_5 : decode bc_G_isRank 5 = .ok (.invokestatic 52, 3) := by decide +kernel
theorem dd_G_isRank_8 : decode bc_G_isRank 8 = .ok (.ireturn, 1) := by decide +kernel
theorem dd_G_add_0 : decode bc_G_add 0 = .ok (.iload_n 1, 1) := by decide +kernel
theorem dd_G_add_1 : decode bc_G_add 1 = .ok (.invokestatic 42, 3) := by decide +kernel
theorem dd_G_add_4 : decode bc_G_add 4 = .ok (.istore_n 2, 1) := by decide +kernel
theorem dd_G_add_5 : decode bc_G_add 5 = .ok (.aload_n 0, 1) := by decide +kernel
theorem dd_G_add_6 : decode bc_G_add 6 = .ok (.getfield 28, 3) := by decide +kernel
theorem dd_G_add_9 : decode bc_G_add 9 = .ok (.aload_n 0, 1) := by decide +kernel
theorem dd_G_add_10 : decode bc_G_add 10 = .ok (.getfield 9, 3) := by decide +kernel
theorem dd_G_add_13 : decode bc_G_add 13 = .ok (.arraylength, 1) := by decide +kernel
theorem dd_G_add_14 : decode bc_G_add 14 = .ok (.if_icmp .ge 47, 3) := by decide +kernel
theorem dd_G_add_17 : decode bc_G_add 17 = .ok (.iload_n 2, 1) := by decide +kernel
theorem dd_G_add_18 : decode bc_G_add 18 = .ok (.invokestatic 48, 3) := by decide +kernel
theorem dd_G_add_21 : decode bc_G_add 21 = .ok (.ifCond .eq 40, 3) := by decide +kernel
theorem dd_G_add_24 : decode bc_G_add 24 = .ok (.aload_n 0, 1) := by decide +kernel
theorem dd_G_add_25 : decode bc_G_add 25 = .ok (.getfield 18, 3) := by decide +kernel
theorem dd_G_add_28 : decode bc_G_add 28 = .ok (.iload_n 2, 1) := by decide +kernel
theorem dd_G_add_29 : decode bc_G_add 29 = .ok (.iconst 5, 1) := by decide +kernel
theorem dd_G_add_30 : decode bc_G_add 30 = .ok (.ishr, 1) := by decide +kernel
theorem dd_G_add_31 : decode bc_G_add 31 = .ok (.dup2, 1) := by decide +kernel
theorem dd_G_add_32 : decode bc_G_add 32 = .ok (.iaload, 1) := by decide +kernel
theorem dd_G_add_33 : decode bc_G_add 33 = .ok (.iconst 1, 1) := by decide +kernel
theorem dd_G_add_34 : decode bc_G_add 34 = .ok (.iload_n 2, 1) := by decide +kernel
theorem dd_G_add_35 : decode bc_G_add 35 = .ok (.bipush 31, 2) := by decide +kernel
theorem dd_G_add_37 : decode bc_G_add 37 = .ok (.iand, 1) := by decide +kernel
theorem dd_G_add_38 : decode bc_G_add 38 = .ok (.ishl, 1) := by decide +kernel
theorem dd_G_add_39 : decode bc_G_add 39 = .ok (.ior, 1) := by decide +kernel
theorem dd_G_add_40 : decode bc_G_add 40 = .ok (.iastore, 1) := by decide +kernel
theorem dd_G_add_41 : decode bc_G_add 41 = .ok (.aload_n 0, 1) := by decide +kernel
theorem dd_G_add_42 : decode bc_G_add 42 = .ok (.getfield 9, 3) := by decide +kernel
theorem dd_G_add_45 : decode bc_G_add 45 = .ok (.aload_n 0, 1) := by decide +kernel
theorem dd_G_add_46 : decode bc_G_add 46 = .ok (.getfield 28, 3) := by decide +kernel
theorem dd_G_add_49 : decode bc_G_add 49 = .ok (.iload_n 1, 1) := by decide +kernel
theorem dd_G_add_50 : decode bc_G_add 50 = .ok (.iastore, 1) := by decide +kernel
theorem dd_G_add_51 : decode bc_G_add 51 = .ok (.aload_n 0, 1) := by decide +kernel
theorem dd_G_add_52 : decode bc_G_add 52 = .ok (.dup, 1) := by decide +kernel
theorem dd_G_add_53 : decode bc_G_add 53 = .ok (.getfield 28, 3) := by decide +kernel
theorem dd_G_add_56 : decode bc_G_add 56 = .ok (.iconst 1, 1) := by decide +kernel
theorem dd_G_add_57 : decode bc_G_add 57 = .ok (.iadd, 1) := by decide +kernel
theorem dd_G_add_58 : decode bc_G_add 58 = .ok (.putfield 28, 3) := by decide +kernel
theorem dd_G_add_61 : decode bc_G_add 61 = .ok (.return_, 1) := by decide +kernel
theorem dd_G_widenByKind_0 : decode bc_G_widenByKind 0 = .ok (.iload_n 1, 1) := by decide +kernel
theorem dd_G_widenByKind_1 : decode bc_G_widenByKind 1 = .ok (.iconst 1, 1) := by decide +kernel
theorem dd_G_widenByKind_2 : decode bc_G_widenByKind 2 = .ok (.if_icmp .eq 13, 3) := by decide +kernel
theorem dd_G_widenByKind_5 : decode bc_G_widenByKind 5 = .ok (.iload_n 1, 1) := by decide +kernel
theorem dd_G_widenByKind_6 : decode bc_G_widenByKind 6 = .ok (.iconst 2, 1) := by decide +kernel
theorem dd_G_widenByKind_7 : decode bc_G_widenByKind 7 = .ok (.if_icmp .eq 8, 3) := by decide +kernel
theorem dd_G_widenByKind_10 : decode bc_G_widenByKind 10 = .ok (.iload_n 1, 1) := by decide +kernel
theorem dd_G_widenByKind_11 : decode bc_G_widenByKind 11 = .ok (.iconst 4, 1) := by decide +kernel
theorem dd_G_widenByKind_12 : decode bc_G_widenByKind 12 = .ok (.if_icmp .ne 14, 3) := by decide +kernel
theorem dd_G_widenByKind_15 : decode bc_G_widenByKind 15 = .ok (.aload_n 0, 1) := by decide +kernel
theorem dd_G_widenByKind_16 : decode bc_G_widenByKind 16 = .ok (.iload_n 2, 1) := by decide +kernel
theorem dd_G_widenByKind_17 : decode bc_G_widenByKind 17 = .ok (.iload_n 3, 1) := by decide +kernel
theorem dd_G_widenByKind_18 : decode bc_G_widenByKind 18 = .ok (.iload 4, 2) := by decide +kernel
theorem dd_G_widenByKind_20 : decode bc_G_widenByKind 20 = .ok (.invokestatic 56, 3) := by decide +kernel
theorem dd_G_widenByKind_23 : decode bc_G_widenByKind 23 = .ok (.invokevirtual 60, 3) := by decide +kernel
theorem dd_G_widenByKind_26 : decode bc_G_widenByKind 26 = .ok (.iload_n 1, 1) := by decide +kernel
theorem dd_G_widenByKind_27 : decode bc_G_widenByKind 27 = .ok (.iconst 2, 1) := by decide +kernel
theorem dd_G_widenByKind_28 : decode bc_G_widenByKind 28 = .ok (.if_icmp .ne 14, 3) := by decide +kernel
theorem dd_G_widenByKind_31 : decode bc_G_widenByKind 31 = .ok (.aload_n 0, 1) := by decide +kernel
theorem dd_G_widenByKind_32 : decode bc_G_widenByKind 32 = .ok (.iload_n 2, 1) := by decide +kernel
theorem dd_G_widenByKind_33 : decode bc_G_widenByKind 33 = .ok (.iload_n 3, 1) := by decide +kernel
theorem dd_G_widenByKind_34 : decode bc_G_widenByKind 34 = .ok (.iload 4, 2) := by decide +kernel
theorem dd_G_widenByKind_36 : decode bc_G_widenByKind 36 = .ok (.invokestatic 63, 3) := by decide +kernel
theorem dd_G_widenByKind_39 : decode bc_G_widenByKind 39 = .ok (.invokevirtual 60, 3) := by decide +kernel
theorem dd_G_widenByKind_42 : decode bc_G_widenByKind 42 = .ok (.iload_n 1, 1) := by decide +kernel
theorem dd_G_widenByKind_43 : decode bc_G_widenByKind 43 = .ok (.iconst 4, 1) := by decide +kernel
theorem dd_G_widenByKind_44 : decode bc_G_widenByKind 44 = .ok (.if_icmp .ne 19, 3) := by decide +kernel
theorem dd_G_widenByKind_47 : decode bc_G_widenByKind 47 = .ok (.iload_n 3, 1) := by decide +kernel
theorem dd_G_widenByKind_48 : decode bc_G_widenByKind 48 = .ok (.iconst 2, 1) := by decide +kernel
theorem dd_G_widenByKind_49 : decode bc_G_widenByKind 49 = .ok (.if_icmp .lt 14, 3) := by decide +kernel
theorem dd_G_widenByKind_52 : decode bc_G_widenByKind 52 = .ok (.aload_n 0, 1) := by decide +kernel
theorem dd_G_widenByKind_53 : decode bc_G_widenByKind 53 = .ok (.iload_n 2, 1) := by decide +kernel
theorem dd_G_widenByKind_54 : decode bc_G_widenByKind 54 = .ok (.iconst 2, 1) := by decide +kernel
theorem dd_G_widenByKind_55 : decode bc_G_widenByKind 55 = .ok (.iload 4, 2) := by decide +kernel
theorem dd_G_widenByKind_57 : decode bc_G_widenByKind 57 = .ok (.invokestatic 56, 3) := by decide +kernel
theorem dd_G_widenByKind_60 : decode bc_G_widenByKind 60 = .ok (.invokevirtual 60, 3) := by decide +kernel
theorem dd_G_widenByKind_63 : decode bc_G_widenByKind 63 = .ok (.iload_n 1, 1) := by decide +kernel
theorem dd_G_widenByKind_64 : decode bc_G_widenByKind 64 = .ok (.iconst 3, 1) := by decide +kernel
theorem dd_G_widenByKind_65 : decode bc_G_widenByKind 65 = .ok (.if_icmp .ne 52, 3) := by decide +kernel
theorem dd_G_widenByKind_68 : decode bc_G_widenByKind 68 = .ok (.iload_n 3, 1) := by decide +kernel
theorem dd_G_widenByKind_69 : decode bc_G_widenByKind 69 = .ok (.iconst 3, 1) := by decide +kernel
theorem dd_G_widenByKind_70 : decode bc_G_widenByKind 70 = .ok (.if_icmp .lt 47, 3) := by decide +kernel
theorem dd_G_widenByKind_73 : decode bc_G_widenByKind 73 = .ok (.iload_n 3, 1) := by decide +kernel
theorem dd_G_widenByKind_74 : decode bc_G_widenByKind 74 = .ok (.iconst 2, 1) := by decide +kernel
theorem dd_G_widenByKind_75 : decode bc_G_widenByKind 75 = .ok (.irem, 1) := by decide +kernel
theorem dd_G_widenByKind_76 : decode bc_G_widenByKind 76 = .ok (.ifCond .ne 7, 3) := by decide +kernel
theorem dd_G_widenByKind_79 : decode bc_G_widenByKind 79 = .ok (.iconst 1, 1) := by decide +kernel
theorem dd_G_widenByKind_80 : decode bc_G_widenByKind 80 = .ok (.goto 4, 3) := by decide +kernel
theorem dd_G_widenByKind_83 : decode bc_G_widenByKind 83 = .ok (.iconst 0, 1) := by decide +kernel
theorem dd_G_widenByKind_84 : decode bc_G_widenByKind 84 = .ok (.istore 5, 2) := by decide +kernel
theorem dd_G_widenByKind_86 : decode bc_G_widenByKind 86 = .ok (.aload_n 0, 1) := by decide +kernel
theorem dd_G_widenByKind_87 : decode bc_G_widenByKind 87 = .ok (.iload_n 2, 1) := by decide +kernel
theorem dd_G_widenByKind_88 : decode bc_G_widenByKind 88 = .ok (.iload 5, 2) := by decide +kernel
theorem dd_G_widenByKind_90 : decode bc_G_widenByKind 90 = .ok (.iload 4, 2) := by decide +kernel
theorem dd_G_widenByKind_92 : decode bc_G_widenByKind 92 = .ok (.imul, 1) := by decide +kernel
theorem dd_G_widenByKind_93 : decode bc_G_widenByKind 93 = .ok (.iadd, 1) := by decide +kernel
theorem dd_G_widenByKind_94 : decode bc_G_widenByKind 94 = .ok (.iload_n 3, 1) := by decide +kernel
theorem dd_G_widenByKind_95 : decode bc_G_widenByKind 95 = .ok (.iload 5, 2) := by decide +kernel
theorem dd_G_widenByKind_97 : decode bc_G_widenByKind 97 = .ok (.isub, 1) := by decide +kernel
theorem dd_G_widenByKind_98 : decode bc_G_widenByKind 98 = .ok (.iload 4, 2) := by decide +kernel
theorem dd_G_widenByKind_100 : decode bc_G_widenByKind 100 = .ok (.invokestatic 56, 3) := by decide +kernel
theorem dd_G_widenByKind_103 : decode bc_G_widenByKind 103 = .ok (.invokevirtual 60, 3) := by decide +kernel
theorem dd_G_widenByKind_106 : decode bc_G_widenByKind 106 = .ok (.aload_n 0, 1) := by decide +kernel
theorem dd_G_widenByKind_107 : decode bc_G_widenByKind 107 = .ok (.iload_n 2, 1) := by decide +kernel
theorem dd_G_widenByKind_108 : decode bc_G_widenByKind 108 = .ok (.iconst 3, 1) := by decide +kernel
theorem dd_G_widenByKind_109 : decode bc_G_widenByKind 109 = .ok (.iload 4, 2) := by decide +kernel
theorem dd_G_widenByKind_111 : decode bc_G_widenByKind 111 = .ok (.invokestatic 56, 3) := by decide +kernel
theorem dd_G_widenByKind_114 : decode bc_G_widenByKind 114 = .ok (.invokevirtual 60, 3) := by decide +kernel
theorem dd_G_widenByKind_117 : decode bc_G_widenByKind 117 = .ok (.return_, 1) := by decide +kernel
theorem dd_G_widen_0 : decode bc_G_widen 0 = .ok (.aload_n 0, 1) := by decide +kernel
theorem dd_G_widen_1 : decode bc_G_widen 1 = .ok (.iload_n 1, 1) := by decide +kernel
theorem dd_G_widen_2 : decode bc_G_widen 2 = .ok (.invokevirtual 66, 3) := by decide +kernel
theorem dd_G_widen_5 : decode bc_G_widen 5 = .ok (.ifCond .ne 15, 3) := by decide +kernel
theorem dd_G_widen_8 : decode bc_G_widen 8 = .ok (.aload_n 0, 1) := by decide +kernel
theorem dd_G_widen_9 : decode bc_G_widen 9 = .ok (.getfield 24, 3) := by decide +kernel
theorem dd_G_widen_12 : decode bc_G_widen 12 = .ok (.aload_n 0, 1) := by decide +kernel
theorem dd_G_widen_13 : decode bc_G_widen 13 = .ok (.getfield 15, 3) := by decide +kernel
theorem dd_G_widen_16 : decode bc_G_widen 16 = .ok (.arraylength, 1) := by decide +kernel
theorem dd_G_widen_17 : decode bc_G_widen 17 = .ok (.if_icmp .lt 4, 3) := by decide +kernel
theorem dd_G_widen_20 : decode bc_G_widen 20 = .ok (.return_, 1) := by decide +kernel
theorem dd_G_widen_21 : decode bc_G_widen 21 = .ok (.aload_n 0, 1) := by decide +kernel
theorem dd_G_widen_22 : decode bc_G_widen 22 = .ok (.getfield 15, 3) := by decide +kernel
theorem dd_G_widen_25 : decode bc_G_widen 25 = .ok (.aload_n 0, 1) := by decide +kernel
theorem dd_G_widen_26 : decode bc_G_widen 26 = .ok (.getfield 24, 3) := by decide +kernel
theorem dd_G_widen_29 : decode bc_G_widen 29 = .ok (.iload_n 1, 1) := by decide +kernel
theorem dd_G_widen_30 : decode bc_G_widen 30 = .ok (.iastore, 1) := by decide +kernel
theorem dd_G_widen_31 : decode bc_G_widen 31 = .ok (.aload_n 0, 1) := by decide +kernel
theorem dd_G_widen_32 : decode bc_G_widen 32 = .ok (.dup, 1) := by decide +kernel
theorem dd_G_widen_33 : decode bc_G_widen 33 = .ok (.getfield 24, 3) := by decide +kernel
theorem dd_G_widen_36 : decode bc_G_widen 36 = .ok (.iconst 1, 1) := by decide +kernel
theorem dd_G_widen_37 : decode bc_G_widen 37 = .ok (.iadd, 1) := by decide +kernel
theorem dd_G_widen_38 : decode bc_G_widen 38 = .ok (.putfield 24, 3) := by decide +kernel
theorem dd_G_widen_41 : decode bc_G_widen 41 = .ok (.aload_n 0, 1) := by decide +kernel
theorem dd_G_widen_42 : decode bc_G_widen 42 = .ok (.getfield 28, 3) := by decide +kernel
theorem dd_G_widen_45 : decode bc_G_widen 45 = .ok (.istore_n 2, 1) := by decide +kernel
theorem dd_G_widen_46 : decode bc_G_widen 46 = .ok (.aload_n 0, 1) := by decide +kernel
theorem dd_G_widen_47 : decode bc_G_widen 47 = .ok (.iload_n 2, 1) := by decide +kernel
theorem dd_G_widen_48 : decode bc_G_widen 48 = .ok (.iload_n 1, 1) := by decide +kernel
theorem dd_G_widen_49 : decode bc_G_widen 49 = .ok (.invokevirtual 69, 3) := by decide +kernel
theorem dd_G_widen_52 : decode bc_G_widen 52 = .ok (.iconst 1, 1) := by decide +kernel
theorem dd_G_widen_53 : decode bc_G_widen 53 = .ok (.istore_n 3, 1) := by decide +kernel
theorem dd_G_widen_54 : decode bc_G_widen 54 = .ok (.iload_n 3, 1) := by decide +kernel
theorem dd_G_widen_55 : decode bc_G_widen 55 = .ok (.sipush 5040, 3) := by decide +kernel
theorem dd_G_widen_58 : decode bc_G_widen 58 = .ok (.if_icmp .ge 73, 3) := by decide +kernel
theorem dd_G_widen_61 : decode bc_G_widen 61 = .ok (.iload_n 3, 1) := by decide +kernel
theorem dd_G_widen_62 : decode bc_G_widen 62 = .ok (.iload_n 2, 1) := by decide +kernel
theorem dd_G_widen_63 : decode bc_G_widen 63 = .ok (.imul, 1) := by decide +kernel
theorem dd_G_widen_64 : decode bc_G_widen 64 = .ok (.aload_n 0, 1) := by decide +kernel
theorem dd_G_widen_65 : decode bc_G_widen 65 = .ok (.getfield 28, 3) := by decide +kernel
theorem dd_G_widen_68 : decode bc_G_widen 68 = .ok (.if_icmp .ge 63, 3) := by decide +kernel
theorem dd_G_widen_71 : decode bc_G_widen 71 = .ok (.iconst 0, 1) := by decide +kernel
theorem dd_G_widen_72 : decode bc_G_widen 72 = .ok (.istore 4, 2) := by decide +kernel
theorem dd_G_widen_74 : decode bc_G_widen 74 = .ok (.iload 4, 2) := by decide +kernel
theorem dd_G_widen_76 : decode bc_G_widen 76 = .ok (.aload_n 0, 1) := by decide +kernel
theorem dd_G_widen_77 : decode bc_G_widen 77 = .ok (.getfield 24, 3) := by decide +kernel
theorem dd_G_widen_80 : decode bc_G_widen 80 = .ok (.if_icmp .ge 45, 3) := by decide +kernel
theorem dd_G_widen_83 : decode bc_G_widen 83 = .ok (.aload_n 0, 1) := by decide +kernel
theorem dd_G_widen_84 : decode bc_G_widen 84 = .ok (.getfield 9, 3) := by decide +kernel
theorem dd_G_widen_87 : decode bc_G_widen 87 = .ok (.iload_n 3, 1) := by decide +kernel
theorem dd_G_widen_88 : decode bc_G_widen 88 = .ok (.iload_n 2, 1) := by decide +kernel
theorem dd_G_widen_89 : decode bc_G_widen 89 = .ok (.imul, 1) := by decide +kernel
theorem dd_G_widen_90 : decode bc_G_widen 90 = .ok (.iaload, 1) := by decide +kernel
theorem dd_G_widen_91 : decode bc_G_widen 91 = .ok (.aload_n 0, 1) := by decide +kernel
theorem dd_G_widen_92 : decode bc_G_widen 92 = .ok (.getfield 15, 3) := by decide +kernel
theorem dd_G_widen_95 : decode bc_G_widen 95 = .ok (.iload 4, 2) := by decide +kernel
theorem dd_G_widen_97 : decode bc_G_widen 97 = .ok (.iaload, 1) := by decide +kernel
theorem dd_G_widen_98 : decode bc_G_widen 98 = .ok (.invokestatic 73, 3) := by decide +kernel
theorem dd_G_widen_101 : decode bc_G_widen 101 = .ok (.istore 5, 2) := by decide +kernel
theorem dd_G_widen_103 : decode bc_G_widen 103 = .ok (.aload_n 0, 1) := by decide +kernel
theorem dd_G_widen_104 : decode bc_G_widen 104 = .ok (.iload 5, 2) := by decide +kernel
theorem dd_G_widen_106 : decode bc_G_widen 106 = .ok (.invokevirtual 66, 3) := by decide +kernel
theorem dd_G_widen_109 : decode bc_G_widen 109 = .ok (.ifCond .ne 10, 3) := by decide +kernel
theorem dd_G_widen_112 : decode bc_G_widen 112 = .ok (.aload_n 0, 1) := by decide +kernel
theorem dd_G_widen_113 : decode bc_G_widen 113 = .ok (.iload_n 2, 1) := by decide +kernel
theorem dd_G_widen_114 : decode bc_G_widen 114 = .ok (.iload 5, 2) := by decide +kernel
theorem dd_G_widen_116 : decode bc_G_widen 116 = .ok (.invokevirtual 69, 3) := by decide +kernel
theorem dd_G_widen_119 : decode bc_G_widen 119 = .ok (.iinc 4 1, 3) := by decide +kernel
theorem dd_G_widen_122 : decode bc_G_widen 122 = .ok (.goto (-48), 3) := by decide +kernel
theorem dd_G_widen_125 : decode bc_G_widen 125 = .ok (.iinc 3 1, 3) := by decide +kernel
theorem dd_G_widen_128 : decode bc_G_widen 128 = .ok (.goto (-74), 3) := by decide +kernel
theorem dd_G_widen_131 : decode bc_G_widen 131 = .ok (.return_, 1) := by decide +kernel
theorem dd_G_addCopy_0 : decode bc_G_addCopy 0 = .ok (.iconst 0, 1) := by decide +kernel
theorem dd_G_addCopy_1 : decode bc_G_addCopy 1 = .ok (.istore_n 3, 1) := by decide +kernel
theorem dd_G_addCopy_2 : decode bc_G_addCopy 2 = .ok (.iload_n 3, 1) := by decide +kernel
theorem dd_G_addCopy_3 : decode bc_G_addCopy 3 = .ok (.iload_n 1, 1) := by decide +kernel
theorem dd_G_addCopy_4 : decode bc_G_addCopy 4 = .ok (.if_icmp .ge 23, 3) := by decide +kernel
theorem dd_G_addCopy_7 : decode bc_G_addCopy 7 = .ok (.aload_n 0, 1) := by decide +kernel
theorem dd_G_addCopy_8 : decode bc_G_addCopy 8 = .ok (.aload_n 0, 1) := by decide +kernel
theorem dd_G_addCopy_9 : decode bc_G_addCopy 9 = .ok (.getfield 9, 3) := by decide +kernel
theorem dd_G_addCopy_12 : decode bc_G_addCopy 12 = .ok (.iload_n 3, 1) := by decide +kernel
theorem dd_G_addCopy_13 : decode bc_G_addCopy 13 = .ok (.iaload, 1) := by decide +kernel
theorem dd_G_addCopy_14 : decode bc_G_addCopy 14 = .ok (.iload_n 2, 1) := by decide +kernel
theorem dd_G_addCopy_15 : decode bc_G_addCopy 15 = .ok (.invokestatic 73, 3) := by decide +kernel
theorem dd_G_addCopy_18 : decode bc_G_addCopy 18 = .ok (.invokevirtual 32, 3) := by decide +kernel
theorem dd_G_addCopy_21 : decode bc_G_addCopy 21 = .ok (.iinc 3 1, 3) := by decide +kernel
theorem dd_G_addCopy_24 : decode bc_G_addCopy 24 = .ok (.goto (-22), 3) := by decide +kernel
theorem dd_G_addCopy_27 : decode bc_G_addCopy 27 = .ok (.return_, 1) := by decide +kernel
theorem dd_G_reachFrom_0 : decode bc_G_reachFrom 0 = .ok (.iconst 0, 1) := by decide +kernel
theorem dd_G_reachFrom_1 : decode bc_G_reachFrom 1 = .ok (.istore_n 2, 1) := by decide +kernel
theorem dd_G_reachFrom_2 : decode bc_G_reachFrom 2 = .ok (.iconst 0, 1) := by decide +kernel
theorem dd_G_reachFrom_3 : decode bc_G_reachFrom 3 = .ok (.istore_n 3, 1) := by decide +kernel
theorem dd_G_reachFrom_4 : decode bc_G_reachFrom 4 = .ok (.iload_n 3, 1) := by decide +kernel
theorem dd_G_reachFrom_5 : decode bc_G_reachFrom 5 = .ok (.aload_n 0, 1) := by decide +kernel
theorem dd_G_reachFrom_6 : decode bc_G_reachFrom 6 = .ok (.getfield 28, 3) := by decide +kernel
theorem dd_G_reachFrom_9 : decode bc_G_reachFrom 9 = .ok (.if_icmp .ge 24, 3) := by decide +kernel
theorem dd_G_reachFrom_12 : decode bc_G_reachFrom 12 = .ok (.iload_n 2, 1) := by decide +kernel
theorem dd_G_reachFrom_13 : decode bc_G_reachFrom 13 = .ok (.iconst 1, 1) := by decide +kernel
theorem dd_G_reachFrom_14 : decode bc_G_reachFrom 14 = .ok (.aload_n 0, 1) := by decide +kernel
theorem dd_G_reachFrom_15 : decode bc_G_reachFrom 15 = .ok (.getfield 9, 3) := by decide +kernel
theorem dd_G_reachFrom_18 : decode bc_G_reachFrom 18 = .ok (.iload_n 3, 1) := by decide +kernel
theorem dd_G_reachFrom_19 : decode bc_G_reachFrom 19 = .ok (.iaload, 1) := by decide +kernel
theorem dd_G_reachFrom_20 : decode bc_G_reachFrom 20 = .ok (.iload_n 1, 1) := by decide +kernel
theorem dd_G_reachFrom_21 : decode bc_G_reachFrom 21 = .ok (.invokestatic 77, 3) := by decide +kernel
theorem dd_G_reachFrom_24 : decode bc_G_reachFrom 24 = .ok (.ishl, 1) := by decide +kernel
theorem dd_G_reachFrom_25 : decode bc_G_reachFrom 25 = .ok (.ior, 1) := by decide +kernel
theorem dd_G_reachFrom_26 : decode bc_G_reachFrom 26 = .ok (.istore_n 2, 1) := by decide +kernel
theorem dd_G_reachFrom_27 : decode bc_G_reachFrom 27 = .ok (.iinc 3 1, 3) := by decide +kernel
theorem dd_G_reachFrom_30 : decode bc_G_reachFrom 30 = .ok (.goto (-26), 3) := by decide +kernel
theorem dd_G_reachFrom_33 : decode bc_G_reachFrom 33 = .ok (.iload_n 2, 1) := by decide +kernel
theorem dd_G_reachFrom_34 : decode bc_G_reachFrom 34 = .ok (.invokestatic 80, 3) := by decide +kernel
theorem dd_G_reachFrom_37 : decode bc_G_reachFrom 37 = .ok (.ireturn, 1) := by decide +kernel
theorem dd_G_holding_0 : decode bc_G_holding 0 = .ok (.iconst 0, 1) := by decide +kernel
theorem dd_G_holding_1 : decode bc_G_holding 1 = .ok (.istore_n 2, 1) := by decide +kernel
theorem dd_G_holding_2 : decode bc_G_holding 2 = .ok (.iconst 0, 1) := by decide +kernel
theorem dd_G_holding_3 : decode bc_G_holding 3 = .ok (.istore_n 3, 1) := by decide +kernel
theorem dd_G_holding_4 : decode bc_G_holding 4 = .ok (.iload_n 3, 1) := by decide +kernel
theorem dd_G_holding_5 : decode bc_G_holding 5 = .ok (.aload_n 0, 1) := by decide +kernel
theorem dd_G_holding_6 : decode bc_G_holding 6 = .ok (.getfield 28, 3) := by decide +kernel
theorem dd_G_holding_9 : decode bc_G_holding 9 = .ok (.if_icmp .ge 26, 3) := by decide +kernel
theorem dd_G_holding_12 : decode bc_G_holding 12 = .ok (.aload_n 0, 1) := by decide +kernel
theorem dd_G_holding_13 : decode bc_G_holding 13 = .ok (.getfield 9, 3) := by decide +kernel
theorem dd_G_holding_16 : decode bc_G_holding 16 = .ok (.iload_n 3, 1) := by decide +kernel
theorem dd_G_holding_17 : decode bc_G_holding 17 = .ok (.iaload, 1) := by decide +kernel
theorem dd_G_holding_18 : decode bc_G_holding 18 = .ok (.iload_n 1, 1) := by decide +kernel
theorem dd_G_holding_19 : decode bc_G_holding 19 = .ok (.invokestatic 77, 3) := by decide +kernel
theorem dd_G_holding_22 : decode bc_G_holding 22 = .ok (.iload_n 1, 1) := by decide +kernel
theorem dd_G_holding_23 : decode bc_G_holding 23 = .ok (.if_icmp .ne 6, 3) := by decide +kernel
theorem dd_G_holding_26 : decode bc_G_holding 26 = .ok (.iinc 2 1, 3) := by decide +kernel
theorem dd_G_holding_29 : decode bc_G_holding 29 = .ok (.iinc 3 1, 3) := by decide +kernel
theorem dd_G_holding_32 : decode bc_G_holding 32 = .ok (.goto (-28), 3) := by decide +kernel
theorem dd_G_holding_35 : decode bc_G_holding 35 = .ok (.iload_n 2, 1) := by decide +kernel
theorem dd_G_holding_36 : decode bc_G_holding 36 = .ok (.ireturn, 1) := by decide +kernel
theorem dd_D_init_0 : decode bc_D_init 0 = .ok (.aload_n 0, 1) := by decide +kernel
theorem dd_D_init_1 : decode bc_D_init 1 = .ok (.invokespecial 3, 3) := by decide +kernel
theorem dd_D_init_4 : decode bc_D_init 4 = .ok (.aload_n 0, 1) := by decide +kernel
theorem dd_D_init_5 : decode bc_D_init 5 = .ok (.bipush 7, 2) := by decide +kernel
theorem dd_D_init_7 : decode bc_D_init 7 = .ok (.newarray .int, 2) := by decide +kernel
theorem dd_D_init_9 : decode bc_D_init 9 = .ok (.putfield 9, 3) := by decide +kernel
theorem dd_D_init_12 : decode bc_D_init 12 = .ok (.aload_n 0, 1) := by decide +kernel
theorem dd_D_init_13 : decode bc_D_init 13 = .ok (.iconst 0, 1) := by decide +kernel
theorem dd_D_init_14 : decode bc_D_init 14 = .ok (.putfield 15, 3) := by decide +kernel
theorem dd_D_init_17 : decode bc_D_init 17 = .ok (.return_, 1) := by decide +kernel
theorem dd_D_toldTurn_0 : decode bc_D_toldTurn 0 = .ok (.aload_n 0, 1) := by decide +kernel
theorem dd_D_toldTurn_1 : decode bc_D_toldTurn 1 = .ok (.getfield 15, 3) := by decide +kernel
theorem dd_D_toldTurn_4 : decode bc_D_toldTurn 4 = .ok (.iload_n 1, 1) := by decide +kernel
theorem dd_D_toldTurn_5 : decode bc_D_toldTurn 5 = .ok (.if_icmp .eq 6, 3) := by decide +kernel
theorem dd_D_toldTurn_8 : decode bc_D_toldTurn 8 = .ok (.bipush (-7), 2) := by decide +kernel
theorem dd_D_toldTurn_10 : decode bc_D_toldTurn 10 = .ok (.ireturn, 1) := by decide +kernel
theorem dd_D_toldTurn_11 : decode bc_D_toldTurn 11 = .ok (.ldc 19, 2) := by decide +kernel
theorem dd_D_toldTurn_13 : decode bc_D_toldTurn 13 = .ok (.istore_n 2, 1) := by decide +kernel
theorem dd_D_toldTurn_14 : decode bc_D_toldTurn 14 = .ok (.iconst 0, 1) := by decide +kernel
theorem dd_D_toldTurn_15 : decode bc_D_toldTurn 15 = .ok (.istore_n 3, 1) := by decide +kernel
theorem dd_D_toldTurn_16 : decode bc_D_toldTurn 16 = .ok (.iconst 0, 1) := by decide +kernel
theorem dd_D_toldTurn_17 : decode bc_D_toldTurn 17 = .ok (.istore 4, 2) := by decide +kernel
theorem dd_D_toldTurn_19 : decode bc_D_toldTurn 19 = .ok (.iload 4, 2) := by decide +kernel
theorem dd_D_toldTurn_21 : decode bc_D_toldTurn 21 = .ok (.iload_n 1, 1) := by decide +kernel
theorem dd_D_toldTurn_22 : decode bc_D_toldTurn 22 = .ok (.if_icmp .ge 61, 3) := by decide +kernel
theorem dd_D_toldTurn_25 : decode bc_D_toldTurn 25 = .ok (.aload_n 0, 1) := by decide +kernel
theorem dd_D_toldTurn_26 : decode bc_D_toldTurn 26 = .ok (.getfield 9, 3) := by decide +kernel
theorem dd_D_toldTurn_29 : decode bc_D_toldTurn 29 = .ok (.iload 4, 2) := by decide +kernel
theorem dd_D_toldTurn_31 : decode bc_D_toldTurn 31 = .ok (.iaload, 1) := by decide +kernel
theorem dd_D_toldTurn_32 : decode bc_D_toldTurn 32 = .ok (.bipush 48, 2) := by decide +kernel
theorem dd_D_toldTurn_34 : decode bc_D_toldTurn 34 = .ok (.isub, 1) := by decide +kernel
theorem dd_D_toldTurn_35 : decode bc_D_toldTurn 35 = .ok (.istore 5, 2) := by decide +kernel
theorem dd_D_toldTurn_37 : decode bc_D_toldTurn 37 = .ok (.iload 5, 2) := by decide +kernel
theorem dd_D_toldTurn_39 : decode bc_D_toldTurn 39 = .ok (.ifCond .lt 19, 3) := by decide +kernel
theorem dd_D_toldTurn_42 : decode bc_D_toldTurn 42 = .ok (.iload 5, 2) := by decide +kernel
theorem dd_D_toldTurn_44 : decode bc_D_toldTurn 44 = .ok (.iload_n 1, 1) := by decide +kernel
theorem dd_D_toldTurn_45 : decode bc_D_toldTurn 45 = .ok (.if_icmp .ge 13, 3) := by decide +kernel
theorem dd_D_toldTurn_48 : decode bc_D_toldTurn 48 = .ok (.iload_n 3, 1) := by decide +kernel
theorem dd_D_toldTurn_49 : decode bc_D_toldTurn 49 = .ok (.iload 5, 2) := by decide +kernel
theorem dd_D_toldTurn_51 : decode bc_D_toldTurn 51 = .ok (.ishr, 1) := by decide +kernel
theorem dd_D_toldTurn_52 : decode bc_D_toldTurn 52 = .ok (.iconst 1, 1) := by decide +kernel
theorem dd_D_toldTurn_53 : decode bc_D_toldTurn 53 = .ok (.iand, 1) := by decide +kernel
theorem dd_D_toldTurn_54 : decode bc_D_toldTurn 54 = .ok (.iconst 1, 1) := by decide +kernel
theorem dd_D_toldTurn_55 : decode bc_D_toldTurn 55 = .ok (.if_icmp .ne 6, 3) := by decide +kernel
theorem dd_D_toldTurn_58 : decode bc_D_toldTurn 58 = .ok (.bipush (-7), 2) := by decide +kernel
theorem dd_D_toldTurn_60 : decode bc_D_toldTurn 60 = .ok (.ireturn, 1) := by decide +kernel
theorem dd_D_toldTurn_61 : decode bc_D_toldTurn 61 = .ok (.iload_n 3, 1) := by decide +kernel
theorem dd_D_toldTurn_62 : decode bc_D_toldTurn 62 = .ok (.iconst 1, 1) := by decide +kernel
theorem dd_D_toldTurn_63 : decode bc_D_toldTurn 63 = .ok (.iload 5, 2) := by decide +kernel
theorem dd_D_toldTurn_65 : decode bc_D_toldTurn 65 = .ok (.ishl, 1) := by decide +kernel
theorem dd_D_toldTurn_66 : decode bc_D_toldTurn 66 = .ok (.ior, 1) := by decide +kernel
theorem dd_D_toldTurn_67 : decode bc_D_toldTurn 67 = .ok (.istore_n 3, 1) := by decide +kernel
theorem dd_D_toldTurn_68 : decode bc_D_toldTurn 68 = .ok (.iload_n 2, 1) := by decide +kernel
theorem dd_D_toldTurn_69 : decode bc_D_toldTurn 69 = .ok (.iload 4, 2) := by decide +kernel
theorem dd_D_toldTurn_71 : decode bc_D_toldTurn 71 = .ok (.iload 5, 2) := by decide +kernel
theorem dd_D_toldTurn_73 : decode bc_D_toldTurn 73 = .ok (.invokestatic 20, 3) := by decide +kernel
theorem dd_D_toldTurn_76 : decode bc_D_toldTurn 76 = .ok (.istore_n 2, 1) := by decide +kernel
theorem dd_D_toldTurn_77 : decode bc_D_toldTurn 77 = .ok (.iinc 4 1, 3) := by decide +kernel
theorem dd_D_toldTurn_80 : decode bc_D_toldTurn 80 = .ok (.goto (-61), 3) := by decide +kernel
theorem dd_D_toldTurn_83 : decode bc_D_toldTurn 83 = .ok (.iload_n 2, 1) := by decide +kernel
theorem dd_D_toldTurn_84 : decode bc_D_toldTurn 84 = .ok (.ireturn, 1) := by decide +kernel
theorem dd_P_init_0 : decode bc_P_init 0 = .ok (.aload_n 0, 1) := by decide +kernel
theorem dd_P_init_1 : decode bc_P_init 1 = .ok (.invokespecial 3, 3) := by decide +kernel
theorem dd_P_init_4 : decode bc_P_init 4 = .ok (.aload_n 0, 1) := by decide +kernel
theorem dd_P_init_5 : decode bc_P_init 5 = .ok (.sipush 16384, 3) := by decide +kernel
theorem dd_P_init_8 : decode bc_P_init 8 = .ok (.newarray .int, 2) := by decide +kernel
theorem dd_P_init_10 : decode bc_P_init 10 = .ok (.putfield 9, 3) := by decide +kernel
theorem dd_P_init_13 : decode bc_P_init 13 = .ok (.aload_n 0, 1) := by decide +kernel
theorem dd_P_init_14 : decode bc_P_init 14 = .ok (.sipush 16384, 3) := by decide +kernel
theorem dd_P_init_17 : decode bc_P_init 17 = .ok (.newarray .int, 2) := by decide +kernel
theorem dd_P_init_19 : decode bc_P_init 19 = .ok (.putfield 15, 3) := by decide +kernel
theorem dd_P_init_22 : decode bc_P_init 22 = .ok (.aload_n 0, 1) := by decide +kernel
theorem dd_P_init_23 : decode bc_P_init 23 = .ok (.sipush 16385, 3) := by decide +kernel
theorem dd_P_init_26 : decode bc_P_init 26 = .ok (.newarray .int, 2) := by decide +kernel
theorem dd_P_init_28 : decode bc_P_init 28 = .ok (.putfield 18, 3) := by decide +kernel
theorem dd_P_init_31 : decode bc_P_init 31 = .ok (.aload_n 0, 1) := by decide +kernel
theorem dd_P_init_32 : decode bc_P_init 32 = .ok (.bipush 8, 2) := by decide +kernel
theorem dd_P_init_34 : decode bc_P_init 34 = .ok (.newarray .int, 2) := by decide +kernel
theorem dd_P_init_36 : decode bc_P_init 36 = .ok (.putfield 21, 3) := by decide +kernel
theorem dd_P_init_39 : decode bc_P_init 39 = .ok (.aload_n 0, 1) := by decide +kernel
theorem dd_P_init_40 : decode bc_P_init 40 = .ok (.iconst 1, 1) := by decide +kernel
theorem dd_P_init_41 : decode bc_P_init 41 = .ok (.putfield 24, 3) := by decide +kernel
theorem dd_P_init_44 : decode bc_P_init 44 = .ok (.aload_n 0, 1) := by decide +kernel
theorem dd_P_init_45 : decode bc_P_init 45 = .ok (.iconst 1, 1) := by decide +kernel
theorem dd_P_init_46 : decode bc_P_init 46 = .ok (.putfield 28, 3) := by decide +kernel
theorem dd_P_init_49 : decode bc_P_init 49 = .ok (.aload_n 0, 1) := by decide +kernel
theorem dd_P_init_50 : decode bc_P_init 50 = .ok (.iconst 0, 1) := by decide +kernel
theorem dd_P_init_51 : decode bc_P_init 51 = .ok (.putfield 31, 3) := by decide +kernel
theorem dd_P_init_54 : decode bc_P_init 54 = .ok (.aload_n 0, 1) := by decide +kernel
theorem dd_P_init_55 : decode bc_P_init 55 = .ok (.iconst 0, 1) := by decide +kernel
theorem dd_P_init_56 : decode bc_P_init 56 = .ok (.putfield 34, 3) := by decide +kernel
theorem dd_P_init_59 : decode bc_P_init 59 = .ok (.aload_n 0, 1) := by decide +kernel
theorem dd_P_init_60 : decode bc_P_init 60 = .ok (.iconst 0, 1) := by decide +kernel
theorem dd_P_init_61 : decode bc_P_init 61 = .ok (.putfield 37, 3) := by decide +kernel
theorem dd_P_init_64 : decode bc_P_init 64 = .ok (.return_, 1) := by decide +kernel
theorem dd_P_bringUp_0 : decode bc_P_bringUp 0 = .ok (.aload_n 0, 1) := by decide +kernel
theorem dd_P_bringUp_1 : decode bc_P_bringUp 1 = .ok (.getfield 37, 3) := by decide +kernel
theorem dd_P_bringUp_4 : decode bc_P_bringUp 4 = .ok (.ifCond .eq 4, 3) := by decide +kernel
theorem dd_P_bringUp_7 : decode bc_P_bringUp 7 = .ok (.return_, 1) := by decide +kernel
theorem dd_P_bringUp_8 : decode bc_P_bringUp 8 = .ok (.aload_n 0, 1) := by decide +kernel
theorem dd_P_bringUp_9 : decode bc_P_bringUp 9 = .ok (.aload_n 1, 1) := by decide +kernel
theorem dd_P_bringUp_10 : decode bc_P_bringUp 10 = .ok (.invokevirtual 41, 3) := by decide +kernel
theorem dd_P_bringUp_13 : decode bc_P_bringUp 13 = .ok (.aload_n 1, 1) := by decide +kernel
theorem dd_P_bringUp_14 : decode bc_P_bringUp 14 = .ok (.invokevirtual 45, 3) := by decide +kernel
theorem dd_P_bringUp_17 : decode bc_P_bringUp 17 = .ok (.sipush 16384, 3) := by decide +kernel
theorem dd_P_bringUp_20 : decode bc_P_bringUp 20 = .ok (.invokestatic 50, 3) := by decide +kernel
theorem dd_P_bringUp_23 : decode bc_P_bringUp 23 = .ok (.istore_n 2, 1) := by decide +kernel
theorem dd_P_bringUp_24 : decode bc_P_bringUp 24 = .ok (.iconst 0, 1) := by decide +kernel
theorem dd_P_bringUp_25 : decode bc_P_bringUp 25 = .ok (.istore_n 3, 1) := by decide +kernel
theorem dd_P_bringUp_26 : decode bc_P_bringUp 26 = .ok (.iload_n 3, 1) := by decide +kernel
theorem dd_P_bringUp_27 : decode bc_P_bringUp 27 = .ok (.iload_n 2, 1) := by decide +kernel
theorem dd_P_bringUp_28 : decode bc_P_bringUp 28 = .ok (.if_icmp .ge 17, 3) := by decide +kernel
theorem dd_P_bringUp_31 : decode bc_P_bringUp 31 = .ok (.aload_n 0, 1) := by decide +kernel
theorem dd_P_bringUp_32 : decode bc_P_bringUp 32 = .ok (.getfield 9, 3) := by decide +kernel
theorem dd_P_bringUp_35 : decode bc_P_bringUp 35 = .ok (.iload_n 3, 1) := by decide +kernel
theorem dd_P_bringUp_36 : decode bc_P_bringUp 36 = .ok (.bipush (-6), 2) := by decide +kernel
theorem dd_P_bringUp_38 : decode bc_P_bringUp 38 = .ok (.iastore, 1) := by decide +kernel
theorem dd_P_bringUp_39 : decode bc_P_bringUp 39 = .ok (.iinc 3 1, 3) := by decide +kernel
theorem dd_P_bringUp_42 : decode bc_P_bringUp 42 = .ok (.goto (-16), 3) := by decide +kernel
theorem dd_P_bringUp_45 : decode bc_P_bringUp 45 = .ok (.aload_n 0, 1) := by decide +kernel
theorem dd_P_bringUp_46 : decode bc_P_bringUp 46 = .ok (.iconst 0, 1) := by decide +kernel
theorem dd_P_bringUp_47 : decode bc_P_bringUp 47 = .ok (.putfield 31, 3) := by decide +kernel
theorem dd_P_bringUp_50 : decode bc_P_bringUp 50 = .ok (.aload_n 0, 1) := by decide +kernel
theorem dd_P_bringUp_51 : decode bc_P_bringUp 51 = .ok (.iconst 0, 1) := by decide +kernel
theorem dd_P_bringUp_52 : decode bc_P_bringUp 52 = .ok (.putfield 34, 3) := by decide +kernel
theorem dd_P_bringUp_55 : decode bc_P_bringUp 55 = .ok (.aload_n 0, 1) := by decide +kernel
theorem dd_P_bringUp_56 : decode bc_P_bringUp 56 = .ok (.getfield 18, 3) := by decide +kernel
theorem dd_P_bringUp_59 : decode bc_P_bringUp 59 = .ok (.iconst 0, 1) := by decide +kernel
theorem dd_P_bringUp_60 : decode bc_P_bringUp 60 = .ok (.iconst 0, 1) := by decide +kernel
theorem dd_P_bringUp_61 : decode bc_P_bringUp 61 = .ok (.iastore, 1) := by decide +kernel
theorem dd_P_bringUp_62 : decode bc_P_bringUp 62 = .ok (.iconst 0, 1) := by decide +kernel
theorem dd_P_bringUp_63 : decode bc_P_bringUp 63 = .ok (.istore_n 3, 1) := by decide +kernel
theorem dd_P_bringUp_64 : decode bc_P_bringUp 64 = .ok (.iload_n 3, 1) := by decide +kernel
theorem dd_P_bringUp_65 : decode bc_P_bringUp 65 = .ok (.iload_n 2, 1) := by decide +kernel
theorem dd_P_bringUp_66 : decode bc_P_bringUp 66 = .ok (.if_icmp .ge 29, 3) := by decide +kernel
theorem dd_P_bringUp_69 : decode bc_P_bringUp 69 = .ok (.aload_n 0, 1) := by decide +kernel
theorem dd_P_bringUp_70 : decode bc_P_bringUp 70 = .ok (.getfield 9, 3) := by decide +kernel
theorem dd_P_bringUp_73 : decode bc_P_bringUp 73 = .ok (.iload_n 3, 1) := by decide +kernel
theorem dd_P_bringUp_74 : decode bc_P_bringUp 74 = .ok (.iaload, 1) := by decide +kernel
theorem dd_P_bringUp_75 : decode bc_P_bringUp 75 = .ok (.bipush (-6), 2) := by decide +kernel
theorem dd_P_bringUp_77 : decode bc_P_bringUp 77 = .ok (.if_icmp .ne 12, 3) := by decide +kernel
theorem dd_P_bringUp_80 : decode bc_P_bringUp 80 = .ok (.aload_n 0, 1) := by decide +kernel
theorem dd_P_bringUp_81 : decode bc_P_bringUp 81 = .ok (.iload_n 3, 1) := by decide +kernel
theorem dd_P_bringUp_82 : decode bc_P_bringUp 82 = .ok (.aload_n 1, 1) := by decide +kernel
theorem dd_P_bringUp_83 : decode bc_P_bringUp 83 = .ok (.getfield 56, 3) := by decide +kernel
theorem dd_P_bringUp_86 : decode bc_P_bringUp 86 = .ok (.invokevirtual 60, 3) := by decide +kernel
theorem dd_P_bringUp_89 : decode bc_P_bringUp 89 = .ok (.iinc 3 1, 3) := by decide +kernel
theorem dd_P_bringUp_92 : decode bc_P_bringUp 92 = .ok (.goto (-28), 3) := by decide +kernel
theorem dd_P_bringUp_95 : decode bc_P_bringUp 95 = .ok (.aload_n 0, 1) := by decide +kernel
theorem dd_P_bringUp_96 : decode bc_P_bringUp 96 = .ok (.iconst 1, 1) := by decide +kernel
theorem dd_P_bringUp_97 : decode bc_P_bringUp 97 = .ok (.putfield 37, 3) := by decide +kernel
theorem dd_P_bringUp_100 : decode bc_P_bringUp 100 = .ok (.return_, 1) := by decide +kernel
theorem dd_P_setPlaces_0 : decode bc_P_setPlaces 0 = .ok (.aload_n 0, 1) := by decide +kernel
theorem dd_P_setPlaces_1 : decode bc_P_setPlaces 1 = .ok (.aload_n 1, 1) := by decide +kernel
theorem dd_P_setPlaces_2 : decode bc_P_setPlaces 2 = .ok (.getfield 64, 3) := by decide +kernel
theorem dd_P_setPlaces_5 : decode bc_P_setPlaces 5 = .ok (.bipush 7, 2) := by decide +kernel
theorem dd_P_setPlaces_7 : decode bc_P_setPlaces 7 = .ok (.invokestatic 50, 3) := by decide +kernel
theorem dd_P_setPlaces_10 : decode bc_P_setPlaces 10 = .ok (.putfield 24, 3) := by decide +kernel
theorem dd_P_setPlaces_13 : decode bc_P_setPlaces 13 = .ok (.aload_n 0, 1) := by decide +kernel
theorem dd_P_setPlaces_14 : decode bc_P_setPlaces 14 = .ok (.aload_n 1, 1) := by decide +kernel
theorem dd_P_setPlaces_15 : decode bc_P_setPlaces 15 = .ok (.getfield 65, 3) := by decide +kernel
theorem dd_P_setPlaces_18 : decode bc_P_setPlaces 18 = .ok (.putfield 28, 3) := by decide +kernel
theorem dd_P_setPlaces_21 : decode bc_P_setPlaces 21 = .ok (.iconst 1, 1) := by decide +kernel
theorem dd_P_setPlaces_22 : decode bc_P_setPlaces 22 = .ok (.istore_n 2, 1) := by decide +kernel
theorem dd_P_setPlaces_23 : decode bc_P_setPlaces 23 = .ok (.aload_n 0, 1) := by decide +kernel
theorem dd_P_setPlaces_24 : decode bc_P_setPlaces 24 = .ok (.getfield 24, 3) := by decide +kernel
theorem dd_P_setPlaces_27 : decode bc_P_setPlaces 27 = .ok (.iconst 1, 1) := by decide +kernel
theorem dd_P_setPlaces_28 : decode bc_P_setPlaces 28 = .ok (.isub, 1) := by decide +kernel
theorem dd_P_setPlaces_29 : decode bc_P_setPlaces 29 = .ok (.istore_n 3, 1) := by decide +kernel
theorem dd_P_setPlaces_30 : decode bc_P_setPlaces 30 = .ok (.iload_n 3, 1) := by decide +kernel
theorem dd_P_setPlaces_31 : decode bc_P_setPlaces 31 = .ok (.ifCond .lt 23, 3) := by decide +kernel
theorem dd_P_setPlaces_34 : decode bc_P_setPlaces 34 = .ok (.aload_n 0, 1) := by decide +kernel
theorem dd_P_setPlaces_35 : decode bc_P_setPlaces 35 = .ok (.getfield 21, 3) := by decide +kernel
theorem dd_P_setPlaces_38 : decode bc_P_setPlaces 38 = .ok (.iload_n 3, 1) := by decide +kernel
theorem dd_P_setPlaces_39 : decode bc_P_setPlaces 39 = .ok (.iload_n 2, 1) := by decide +kernel
theorem dd_P_setPlaces_40 : decode bc_P_setPlaces 40 = .ok (.iastore, 1) := by decide +kernel
theorem dd_P_setPlaces_41 : decode bc_P_setPlaces 41 = .ok (.iload_n 2, 1) := by decide +kernel
theorem dd_P_setPlaces_42 : decode bc_P_setPlaces 42 = .ok (.aload_n 0, 1) := by decide +kernel
theorem dd_P_setPlaces_43 : decode bc_P_setPlaces 43 = .ok (.getfield 28, 3) := by decide +kernel
theorem dd_P_setPlaces_46 : decode bc_P_setPlaces 46 = .ok (.imul, 1) := by decide +kernel
theorem dd_P_setPlaces_47 : decode bc_P_setPlaces 47 = .ok (.istore_n 2, 1) := by decide +kernel
theorem dd_P_setPlaces_48 : decode bc_P_setPlaces 48 = .ok (.iinc 3 (-1), 3) := by decide +kernel
theorem dd_P_setPlaces_51 : decode bc_P_setPlaces 51 = .ok (.goto (-21), 3) := by decide +kernel
theorem dd_P_setPlaces_54 : decode bc_P_setPlaces 54 = .ok (.return_, 1) := by decide +kernel
theorem dd_P_gather_0 : decode bc_P_gather 0 = .ok (.aload_n 0, 1) := by decide +kernel
theorem dd_P_gather_1 : decode bc_P_gather 1 = .ok (.getfield 34, 3) := by decide +kernel
theorem dd_P_gather_4 : decode bc_P_gather 4 = .ok (.sipush 16384, 3) := by decide +kernel
theorem dd_P_gather_7 : decode bc_P_gather 7 = .ok (.if_icmp .lt 4, 3) := by decide +kernel
theorem dd_P_gather_10 : decode bc_P_gather 10 = .ok (.return_, 1) := by decide +kernel
theorem dd_P_gather_11 : decode bc_P_gather 11 = .ok (.aload_n 0, 1) := by decide +kernel
theorem dd_P_gather_12 : decode bc_P_gather 12 = .ok (.getfield 31, 3) := by decide +kernel
theorem dd_P_gather_15 : decode bc_P_gather 15 = .ok (.istore_n 3, 1) := by decide +kernel
theorem dd_P_gather_16 : decode bc_P_gather 16 = .ok (.aload_n 0, 1) := by decide +kernel
theorem dd_P_gather_17 : decode bc_P_gather 17 = .ok (.iload_n 1, 1) := by decide +kernel
theorem dd_P_gather_18 : decode bc_P_gather 18 = .ok (.invokevirtual 66, 3) := by decide +kernel
theorem dd_P_gather_21 : decode bc_P_gather 21 = .ok (.iload_n 3, 1) := by decide +kernel
theorem dd_P_gather_22 : decode bc_P_gather 22 = .ok (.istore 4, 2) := by decide +kernel
theorem dd_P_gather_24 : decode bc_P_gather 24 = .ok (.iload 4, 2) := by decide +kernel
theorem dd_P_gather_26 : decode bc_P_gather 26 = .ok (.aload_n 0, 1) := by decide +kernel
theorem dd_P_gather_27 : decode bc_P_gather 27 = .ok (.getfield 31, 3) := by decide +kernel
theorem dd_P_gather_30 : decode bc_P_gather 30 = .ok (.if_icmp .ge 57, 3) := by decide +kernel
theorem dd_P_gather_33 : decode bc_P_gather 33 = .ok (.iload 4, 2) := by decide +kernel
theorem dd_P_gather_35 : decode bc_P_gather 35 = .ok (.sipush 16384, 3) := by decide +kernel
theorem dd_P_gather_38 : decode bc_P_gather 38 = .ok (.if_icmp .ge 49, 3) := by decide +kernel
theorem dd_P_gather_41 : decode bc_P_gather 41 = .ok (.iconst 0, 1) := by decide +kernel
theorem dd_P_gather_42 : decode bc_P_gather 42 = .ok (.istore 5, 2) := by decide +kernel
theorem dd_P_gather_44 : decode bc_P_gather 44 = .ok (.iload 5, 2) := by decide +kernel
theorem dd_P_gather_46 : decode bc_P_gather 46 = .ok (.aload_n 2, 1) := by decide +kernel
theorem dd_P_gather_47 : decode bc_P_gather 47 = .ok (.getfield 70, 3) := by decide +kernel
theorem dd_P_gather_50 : decode bc_P_gather 50 = .ok (.if_icmp .ge 31, 3) := by decide +kernel
theorem dd_P_gather_53 : decode bc_P_gather 53 = .ok (.aload_n 0, 1) := by decide +kernel
theorem dd_P_gather_54 : decode bc_P_gather 54 = .ok (.aload_n 0, 1) := by decide +kernel
theorem dd_P_gather_55 : decode bc_P_gather 55 = .ok (.aload_n 0, 1) := by decide +kernel
theorem dd_P_gather_56 : decode bc_P_gather 56 = .ok (.getfield 15, 3) := by decide +kernel
theorem dd_P_gather_59 : decode bc_P_gather 59 = .ok (.iload 4, 2) := by decide +kernel
theorem dd_P_gather_61 : decode bc_P_gather 61 = .ok (.iaload, 1) := by decide +kernel
theorem dd_P_gather_62 : decode bc_P_gather 62 = .ok (.aload_n 2, 1) := by decide +kernel
theorem dd_P_gather_63 : decode bc_P_gather 63 = .ok (.getfield 75, 3) := by decide +kernel
theorem dd_P_gather_66 : decode bc_P_gather 66 = .ok (.iload 5, 2) := by decide +kernel
theorem dd_P_gather_68 : decode bc_P_gather 68 = .ok (.iaload, 1) := by decide +kernel
theorem dd_P_gather_69 : decode bc_P_gather 69 = .ok (.invokevirtual 78, 3) := by decide +kernel
theorem dd_P_gather_72 : decode bc_P_gather 72 = .ok (.invokevirtual 66, 3) := by decide +kernel
theorem dd_P_gather_75 : decode bc_P_gather 75 = .ok (.iinc 5 1, 3) := by decide +kernel
theorem dd_P_gather_78 : decode bc_P_gather 78 = .ok (.goto (-34), 3) := by decide +kernel
theorem dd_P_gather_81 : decode bc_P_gather 81 = .ok (.iinc 4 1, 3) := by decide +kernel
theorem dd_P_gather_84 : decode bc_P_gather 84 = .ok (.goto (-60), 3) := by decide +kernel
theorem dd_P_gather_87 : decode bc_P_gather 87 = .ok (.aload_n 0, 1) := by decide +kernel
theorem dd_P_gather_88 : decode bc_P_gather 88 = .ok (.dup, 1) := by decide +kernel
theorem dd_P_gather_89 : decode bc_P_gather 89 = .ok (.getfield 34, 3) := by decide +kernel
theorem dd_P_gather_92 : decode bc_P_gather 92 = .ok (.iconst 1, 1) := by decide +kernel
theorem dd_P_gather_93 : decode bc_P_gather 93 = .ok (.iadd, 1) := by decide +kernel
theorem dd_P_gather_94 : decode bc_P_gather 94 = .ok (.putfield 34, 3) := by decide +kernel
theorem dd_P_gather_97 : decode bc_P_gather 97 = .ok (.aload_n 0, 1) := by decide +kernel
theorem dd_P_gather_98 : decode bc_P_gather 98 = .ok (.getfield 18, 3) := by decide +kernel
theorem dd_P_gather_101 : decode bc_P_gather 101 = .ok (.aload_n 0, 1) := by decide +kernel
theorem dd_P_gather_102 : decode bc_P_gather 102 = .ok (.getfield 34, 3) := by decide +kernel
theorem dd_P_gather_105 : decode bc_P_gather 105 = .ok (.aload_n 0, 1) := by decide +kernel
theorem dd_P_gather_106 : decode bc_P_gather 106 = .ok (.getfield 31, 3) := by decide +kernel
theorem dd_P_gather_109 : decode bc_P_gather 109 = .ok (.iastore, 1) := by decide +kernel
theorem dd_P_gather_110 : decode bc_P_gather 110 = .ok (.return_, 1) := by decide +kernel
theorem dd_P_put_0 : decode bc_P_put 0 = .ok (.iload_n 1, 1) := by decide +kernel
theorem dd_P_put_1 : decode bc_P_put 1 = .ok (.iconst 0, 1) := by decide +kernel
theorem dd_P_put_2 : decode bc_P_put 2 = .ok (.sipush 16383, 3) := by decide +kernel
theorem dd_P_put_5 : decode bc_P_put 5 = .ok (.invokestatic 81, 3) := by decide +kernel
theorem dd_P_put_8 : decode bc_P_put 8 = .ok (.ifCond .eq 54, 3) := by decide +kernel
theorem dd_P_put_11 : decode bc_P_put 11 = .ok (.aload_n 0, 1) := by decide +kernel
theorem dd_P_put_12 : decode bc_P_put 12 = .ok (.getfield 9, 3) := by decide +kernel
theorem dd_P_put_15 : decode bc_P_put 15 = .ok (.iload_n 1, 1) := by decide +kernel
theorem dd_P_put_16 : decode bc_P_put 16 = .ok (.iaload, 1) := by decide +kernel
theorem dd_P_put_17 : decode bc_P_put 17 = .ok (.bipush (-6), 2) := by decide +kernel
theorem dd_P_put_19 : decode bc_P_put 19 = .ok (.if_icmp .ne 43, 3) := by decide +kernel
theorem dd_P_put_22 : decode bc_P_put 22 = .ok (.aload_n 0, 1) := by decide +kernel
theorem dd_P_put_23 : decode bc_P_put 23 = .ok (.getfield 31, 3) := by decide +kernel
theorem dd_P_put_26 : decode bc_P_put 26 = .ok (.sipush 16384, 3) := by decide +kernel
theorem dd_P_put_29 : decode bc_P_put 29 = .ok (.if_icmp .ge 33, 3) := by decide +kernel
theorem dd_P_put_32 : decode bc_P_put 32 = .ok (.aload_n 0, 1) := by decide +kernel
theorem dd_P_put_33 : decode bc_P_put 33 = .ok (.getfield 9, 3) := by decide +kernel
theorem dd_P_put_36 : decode bc_P_put 36 = .ok (.iload_n 1, 1) := by decide +kernel
theorem dd_P_put_37 : decode bc_P_put 37 = .ok (.aload_n 0, 1) := by decide +kernel
theorem dd_P_put_38 : decode bc_P_put 38 = .ok (.getfield 34, 3) := by decide +kernel
theorem dd_P_put_41 : decode bc_P_put 41 = .ok (.iastore, 1) := by decide +kernel
theorem dd_P_put_42 : decode bc_P_put 42 = .ok (.aload_n 0, 1) := by decide +kernel
theorem dd_P_put_43 : decode bc_P_put 43 = .ok (.getfield 15, 3) := by decide +kernel
theorem dd_P_put_46 : decode bc_P_put 46 = .ok (.aload_n 0, 1) := by decide +kernel
theorem dd_P_put_47 : decode bc_P_put 47 = .ok (.getfield 31, 3) := by decide +kernel
theorem dd_P_put_50 : decode bc_P_put 50 = .ok (.iload_n 1, 1) := by decide +kernel
theorem dd_P_put_51 : decode bc_P_put 51 = .ok (.iastore, 1) := by decide +kernel
theorem dd_P_put_52 : decode bc_P_put 52 = .ok (.aload_n 0, 1) := by decide +kernel
theorem dd_P_put_53 : decode bc_P_put 53 = .ok (.dup, 1) := by decide +kernel
theorem dd_P_put_54 : decode bc_P_put 54 = .ok (.getfield 31, 3) := by decide +kernel
theorem dd_P_put_57 : decode bc_P_put 57 = .ok (.iconst 1, 1) := by decide +kernel
theorem dd_P_put_58 : decode bc_P_put 58 = .ok (.iadd, 1) := by decide +kernel
theorem dd_P_put_59 : decode bc_P_put 59 = .ok (.putfield 31, 3) := by decide +kernel
theorem dd_P_put_62 : decode bc_P_put 62 = .ok (.return_, 1) := by decide +kernel
theorem dd_P_patternOf_0 : decode bc_P_patternOf 0 = .ok (.iload_n 1, 1) := by decide +kernel
theorem dd_P_patternOf_1 : decode bc_P_patternOf 1 = .ok (.iconst 0, 1) := by decide +kernel
theorem dd_P_patternOf_2 : decode bc_P_patternOf 2 = .ok (.sipush 16383, 3) := by decide +kernel
theorem dd_P_patternOf_5 : decode bc_P_patternOf 5 = .ok (.invokestatic 81, 3) := by decide +kernel
theorem dd_P_patternOf_8 : decode bc_P_patternOf 8 = .ok (.ifCond .eq 12, 3) := by decide +kernel
theorem dd_P_patternOf_11 : decode bc_P_patternOf 11 = .ok (.aload_n 0, 1) := by decide +kernel
theorem dd_P_patternOf_12 : decode bc_P_patternOf 12 = .ok (.getfield 9, 3) := by decide +kernel
theorem dd_P_patternOf_15 : decode bc_P_patternOf 15 = .ok (.iload_n 1, 1) := by decide +kernel
theorem dd_P_patternOf_16 : decode bc_P_patternOf 16 = .ok (.iaload, 1) := by decide +kernel
theorem dd_P_patternOf_17 : decode bc_P_patternOf 17 = .ok (.goto 5, 3) := by decide +kernel
theorem dd_P_patternOf_20 : decode bc_P_patternOf 20 = .ok (.bipush (-6), 2) := by decide +kernel
theorem dd_P_patternOf_22 : decode bc_P_patternOf 22 = .ok (.ireturn, 1) := by decide +kernel
theorem dd_P_turned_0 : decode bc_P_turned 0 = .ok (.aload_n 0, 1) := by decide +kernel
theorem dd_P_turned_1 : decode bc_P_turned 1 = .ok (.getfield 28, 3) := by decide +kernel
theorem dd_P_turned_4 : decode bc_P_turned 4 = .ok (.iconst 1, 1) := by decide +kernel
theorem dd_P_turned_5 : decode bc_P_turned 5 = .ok (.if_icmp .ge 6, 3) := by decide +kernel
theorem dd_P_turned_8 : decode bc_P_turned 8 = .ok (.bipush (-6), 2) := by decide +kernel
theorem dd_P_turned_10 : decode bc_P_turned 10 = .ok (.ireturn, 1) := by decide +kernel
theorem dd_P_turned_11 : decode bc_P_turned 11 = .ok (.iload_n 1, 1) := by decide +kernel
theorem dd_P_turned_12 : decode bc_P_turned 12 = .ok (.istore_n 3, 1) := by decide +kernel
theorem dd_P_turned_13 : decode bc_P_turned 13 = .ok (.iconst 0, 1) := by decide +kernel
theorem dd_P_turned_14 : decode bc_P_turned 14 = .ok (.istore 4, 2) := by decide +kernel
theorem dd_P_turned_16 : decode bc_P_turned 16 = .ok (.aload_n 0, 1) := by decide +kernel
theorem dd_P_turned_17 : decode bc_P_turned 17 = .ok (.getfield 24, 3) := by decide +kernel
theorem dd_P_turned_20 : decode bc_P_turned 20 = .ok (.iconst 1, 1) := by decide +kernel
theorem dd_P_turned_21 : decode bc_P_turned 21 = .ok (.isub, 1) := by decide +kernel
theorem dd_P_turned_22 : decode bc_P_turned 22 = .ok (.istore 5, 2) := by decide +kernel
theorem dd_P_turned_24 : decode bc_P_turned 24 = .ok (.iload 5, 2) := by decide +kernel
theorem dd_P_turned_26 : decode bc_P_turned 26 = .ok (.ifCond .lt 39, 3) := by decide +kernel
theorem dd_P_turned_29 : decode bc_P_turned 29 = .ok (.iload 4, 2) := by decide +kernel
theorem dd_P_turned_31 : decode bc_P_turned 31 = .ok (.iload_n 3, 1) := by decide +kernel
theorem dd_P_turned_32 : decode bc_P_turned 32 = .ok (.aload_n 0, 1) := by decide +kernel
theorem dd_P_turned_33 : decode bc_P_turned 33 = .ok (.getfield 28, 3) := by decide +kernel
theorem dd_P_turned_36 : decode bc_P_turned 36 = .ok (.irem, 1) := by decide +kernel
theorem dd_P_turned_37 : decode bc_P_turned 37 = .ok (.aload_n 0, 1) := by decide +kernel
theorem dd_P_turned_38 : decode bc_P_turned 38 = .ok (.getfield 21, 3) := by decide +kernel
theorem dd_P_turned_41 : decode bc_P_turned 41 = .ok (.iload_n 2, 1) := by decide +kernel
theorem dd_P_turned_42 : decode bc_P_turned 42 = .ok (.iload 5, 2) := by decide +kernel
theorem dd_P_turned_44 : decode bc_P_turned 44 = .ok (.invokestatic 85, 3) := by decide +kernel
theorem dd_P_turned_47 : decode bc_P_turned 47 = .ok (.iaload, 1) := by decide +kernel
theorem dd_P_turned_48 : decode bc_P_turned 48 = .ok (.imul, 1) := by decide +kernel
theorem dd_P_turned_49 : decode bc_P_turned 49 = .ok (.iadd, 1) := by decide +kernel
theorem dd_P_turned_50 : decode bc_P_turned 50 = .ok (.istore 4, 2) := by decide +kernel
theorem dd_P_turned_52 : decode bc_P_turned 52 = .ok (.iload_n 3, 1) := by decide +kernel
theorem dd_P_turned_53 : decode bc_P_turned 53 = .ok (.aload_n 0, 1) := by decide +kernel
theorem dd_P_turned_54 : decode bc_P_turned 54 = .ok (.getfield 28, 3) := by decide +kernel
theorem dd_P_turned_57 : decode bc_P_turned 57 = .ok (.idiv, 1) := by decide +kernel
theorem dd_P_turned_58 : decode bc_P_turned 58 = .ok (.istore_n 3, 1) := by decide +kernel
theorem dd_P_turned_59 : decode bc_P_turned 59 = .ok (.iinc 5 (-1), 3) := by decide +kernel
theorem dd_P_turned_62 : decode bc_P_turned 62 = .ok (.goto (-38), 3) := by decide +kernel
theorem dd_P_turned_65 : decode bc_P_turned 65 = .ok (.iload 4, 2) := by decide +kernel
theorem dd_P_turned_67 : decode bc_P_turned 67 = .ok (.ireturn, 1) := by decide +kernel
theorem dd_P_leastOf_0 : decode bc_P_leastOf 0 = .ok (.iload_n 1, 1) := by decide +kernel
theorem dd_P_leastOf_1 : decode bc_P_leastOf 1 = .ok (.iconst 0, 1) := by decide +kernel
theorem dd_P_leastOf_2 : decode bc_P_leastOf 2 = .ok (.aload_n 0, 1) := by decide +kernel
theorem dd_P_leastOf_3 : decode bc_P_leastOf 3 = .ok (.getfield 34, 3) := by decide +kernel
theorem dd_P_leastOf_6 : decode bc_P_leastOf 6 = .ok (.iconst 1, 1) := by decide +kernel
theorem dd_P_leastOf_7 : decode bc_P_leastOf 7 = .ok (.isub, 1) := by decide +kernel
theorem dd_P_leastOf_8 : decode bc_P_leastOf 8 = .ok (.invokestatic 81, 3) := by decide +kernel
theorem dd_P_leastOf_11 : decode bc_P_leastOf 11 = .ok (.ifCond .eq 12, 3) := by decide +kernel
theorem dd_P_leastOf_14 : decode bc_P_leastOf 14 = .ok (.aload_n 0, 1) := by decide +kernel
theorem dd_P_leastOf_15 : decode bc_P_leastOf 15 = .ok (.getfield 18, 3) := by decide +kernel
theorem dd_P_leastOf_18 : decode bc_P_leastOf 18 = .ok (.iload_n 1, 1) := by decide +kernel
theorem dd_P_leastOf_19 : decode bc_P_leastOf 19 = .ok (.iaload, 1) := by decide +kernel
theorem dd_P_leastOf_20 : decode bc_P_leastOf 20 = .ok (.goto 5, 3) := by decide +kernel
theorem dd_P_leastOf_23 : decode bc_P_leastOf 23 = .ok (.bipush (-6), 2) := by decide +kernel
theorem dd_P_leastOf_25 : decode bc_P_leastOf 25 = .ok (.istore_n 2, 1) := by decide +kernel
theorem dd_P_leastOf_26 : decode bc_P_leastOf 26 = .ok (.iload_n 2, 1) := by decide +kernel
theorem dd_P_leastOf_27 : decode bc_P_leastOf 27 = .ok (.iconst 0, 1) := by decide +kernel
theorem dd_P_leastOf_28 : decode bc_P_leastOf 28 = .ok (.sipush 16383, 3) := by decide +kernel
theorem dd_P_leastOf_31 : decode bc_P_leastOf 31 = .ok (.invokestatic 81, 3) := by decide +kernel
theorem dd_P_leastOf_34 : decode bc_P_leastOf 34 = .ok (.ifCond .eq 12, 3) := by decide +kernel
theorem dd_P_leastOf_37 : decode bc_P_leastOf 37 = .ok (.aload_n 0, 1) := by decide +kernel
theorem dd_P_leastOf_38 : decode bc_P_leastOf 38 = .ok (.getfield 15, 3) := by decide +kernel
theorem dd_P_leastOf_41 : decode bc_P_leastOf 41 = .ok (.iload_n 2, 1) := by decide +kernel
theorem dd_P_leastOf_42 : decode bc_P_leastOf 42 = .ok (.iaload, 1) := by decide +kernel
theorem dd_P_leastOf_43 : decode bc_P_leastOf 43 = .ok (.goto 5, 3) := by decide +kernel
theorem dd_P_leastOf_46 : decode bc_P_leastOf 46 = .ok (.bipush (-6), 2) := by decide +kernel
theorem dd_P_leastOf_48 : decode bc_P_leastOf 48 = .ok (.ireturn, 1) := by decide +kernel
theorem dd_P_sizeOf_0 : decode bc_P_sizeOf 0 = .ok (.iload_n 1, 1) := by decide +kernel
theorem dd_P_sizeOf_1 : decode bc_P_sizeOf 1 = .ok (.iconst 0, 1) := by decide +kernel
theorem dd_P_sizeOf_2 : decode bc_P_sizeOf 2 = .ok (.aload_n 0, 1) := by decide +kernel
theorem dd_P_sizeOf_3 : decode bc_P_sizeOf 3 = .ok (.getfield 34, 3) := by decide +kernel
theorem dd_P_sizeOf_6 : decode bc_P_sizeOf 6 = .ok (.iconst 1, 1) := by decide +kernel
theorem dd_P_sizeOf_7 : decode bc_P_sizeOf 7 = .ok (.isub, 1) := by decide +kernel
theorem dd_P_sizeOf_8 : decode bc_P_sizeOf 8 = .ok (.invokestatic 81, 3) := by decide +kernel
theorem dd_P_sizeOf_11 : decode bc_P_sizeOf 11 = .ok (.ifCond .eq 21, 3) := by decide +kernel
theorem dd_P_sizeOf_14 : decode bc_P_sizeOf 14 = .ok (.aload_n 0, 1) := by decide +kernel
theorem dd_P_sizeOf_15 : decode bc_P_sizeOf 15 = .ok (.getfield 18, 3) := by decide +kernel
theorem dd_P_sizeOf_18 : decode bc_P_sizeOf 18 = .ok (.iload_n 1, 1) := by decide +kernel
theorem dd_P_sizeOf_19 : decode bc_P_sizeOf 19 = .ok (.iconst 1, 1) := by decide +kernel
theorem dd_P_sizeOf_20 : decode bc_P_sizeOf 20 = .ok (.iadd, 1) := by decide +kernel
theorem dd_P_sizeOf_21 : decode bc_P_sizeOf 21 = .ok (.iaload, 1) := by decide +kernel
theorem dd_P_sizeOf_22 : decode bc_P_sizeOf 22 = .ok (.aload_n 0, 1) := by decide +kernel
theorem dd_P_sizeOf_23 : decode bc_P_sizeOf 23 = .ok (.getfield 18, 3) := by decide +kernel
theorem dd_P_sizeOf_26 : decode bc_P_sizeOf 26 = .ok (.iload_n 1, 1) := by decide +kernel
theorem dd_P_sizeOf_27 : decode bc_P_sizeOf 27 = .ok (.iaload, 1) := by decide +kernel
theorem dd_P_sizeOf_28 : decode bc_P_sizeOf 28 = .ok (.isub, 1) := by decide +kernel
theorem dd_P_sizeOf_29 : decode bc_P_sizeOf 29 = .ok (.goto 4, 3) := by decide +kernel
theorem dd_P_sizeOf_32 : decode bc_P_sizeOf 32 = .ok (.iconst 0, 1) := by decide +kernel
theorem dd_P_sizeOf_33 : decode bc_P_sizeOf 33 = .ok (.ireturn, 1) := by decide +kernel
theorem dd_P_twinOf_0 : decode bc_P_twinOf 0 = .ok (.aload_n 0, 1) := by decide +kernel
theorem dd_P_twinOf_1 : decode bc_P_twinOf 1 = .ok (.aload_n 2, 1) := by decide +kernel
theorem dd_P_twinOf_2 : decode bc_P_twinOf 2 = .ok (.aload_n 0, 1) := by decide +kernel
theorem dd_P_twinOf_3 : decode bc_P_twinOf 3 = .ok (.iload_n 1, 1) := by decide +kernel
theorem dd_P_twinOf_4 : decode bc_P_twinOf 4 = .ok (.invokevirtual 90, 3) := by decide +kernel
theorem dd_P_twinOf_7 : decode bc_P_twinOf 7 = .ok (.invokevirtual 94, 3) := by decide +kernel
theorem dd_P_twinOf_10 : decode bc_P_twinOf 10 = .ok (.invokevirtual 97, 3) := by decide +kernel
theorem dd_P_twinOf_13 : decode bc_P_twinOf 13 = .ok (.ireturn, 1) := by decide +kernel
theorem dd_P_keepersOf_0 : decode bc_P_keepersOf 0 = .ok (.aload_n 0, 1) := by decide +kernel
theorem dd_P_keepersOf_1 : decode bc_P_keepersOf 1 = .ok (.aload_n 0, 1) := by decide +kernel
theorem dd_P_keepersOf_2 : decode bc_P_keepersOf 2 = .ok (.iload_n 1, 1) := by decide +kernel
theorem dd_P_keepersOf_3 : decode bc_P_keepersOf 3 = .ok (.invokevirtual 97, 3) := by decide +kernel
theorem dd_P_keepersOf_6 : decode bc_P_keepersOf 6 = .ok (.invokevirtual 100, 3) := by decide +kernel
theorem dd_P_keepersOf_9 : decode bc_P_keepersOf 9 = .ok (.istore_n 3, 1) := by decide +kernel
theorem dd_P_keepersOf_10 : decode bc_P_keepersOf 10 = .ok (.iload_n 3, 1) := by decide +kernel
theorem dd_P_keepersOf_11 : decode bc_P_keepersOf 11 = .ok (.iconst 1, 1) := by decide +kernel
theorem dd_P_keepersOf_12 : decode bc_P_keepersOf 12 = .ok (.if_icmp .ge 7, 3) := by decide +kernel
theorem dd_P_keepersOf_15 : decode bc_P_keepersOf 15 = .ok (.iconst 0, 1) := by decide +kernel
theorem dd_P_keepersOf_16 : decode bc_P_keepersOf 16 = .ok (.goto 9, 3) := by decide +kernel
theorem dd_P_keepersOf_19 : decode bc_P_keepersOf 19 = .ok (.aload_n 2, 1) := by decide +kernel
theorem dd_P_keepersOf_20 : decode bc_P_keepersOf 20 = .ok (.getfield 103, 3) := by decide +kernel
theorem dd_P_keepersOf_23 : decode bc_P_keepersOf 23 = .ok (.iload_n 3, 1) := by decide +kernel
theorem dd_P_keepersOf_24 : decode bc_P_keepersOf 24 = .ok (.idiv, 1) := by decide +kernel
theorem dd_P_keepersOf_25 : decode bc_P_keepersOf 25 = .ok (.ireturn, 1) := by decide +kernel
theorem dd_P_firstToLeast_0 : decode bc_P_firstToLeast 0 = .ok (.aload_n 0, 1) := by decide +kernel
theorem dd_P_firstToLeast_1 : decode bc_P_firstToLeast 1 = .ok (.aload_n 0, 1) := by decide +kernel
theorem dd_P_firstToLeast_2 : decode bc_P_firstToLeast 2 = .ok (.iload_n 1, 1) := by decide +kernel
theorem dd_P_firstToLeast_3 : decode bc_P_firstToLeast 3 = .ok (.invokevirtual 97, 3) := by decide +kernel
theorem dd_P_firstToLeast_6 : decode bc_P_firstToLeast 6 = .ok (.invokevirtual 90, 3) := by decide +kernel
theorem dd_P_firstToLeast_9 : decode bc_P_firstToLeast 9 = .ok (.istore_n 3, 1) := by decide +kernel
theorem dd_P_firstToLeast_10 : decode bc_P_firstToLeast 10 = .ok (.bipush (-6), 2) := by decide +kernel
theorem dd_P_firstToLeast_12 : decode bc_P_firstToLeast 12 = .ok (.istore 4, 2) := by decide +kernel
theorem dd_P_firstToLeast_14 : decode bc_P_firstToLeast 14 = .ok (.iconst 0, 1) := by decide +kernel
theorem dd_P_firstToLeast_15 : decode bc_P_firstToLeast 15 = .ok (.istore 5, 2) := by decide +kernel
theorem dd_P_firstToLeast_17 : decode bc_P_firstToLeast 17 = .ok (.iload 5, 2) := by decide +kernel
theorem dd_P_firstToLeast_19 : decode bc_P_firstToLeast 19 = .ok (.aload_n 2, 1) := by decide +kernel
theorem dd_P_firstToLeast_20 : decode bc_P_firstToLeast 20 = .ok (.getfield 103, 3) := by decide +kernel
theorem dd_P_firstToLeast_23 : decode bc_P_firstToLeast 23 = .ok (.if_icmp .ge 47, 3) := by decide +kernel
theorem dd_P_firstToLeast_26 : decode bc_P_firstToLeast 26 = .ok (.aload_n 2, 1) := by decide +kernel
theorem dd_P_firstToLeast_27 : decode bc_P_firstToLeast 27 = .ok (.getfield 106, 3) := by decide +kernel
theorem dd_P_firstToLeast_30 : decode bc_P_firstToLeast 30 = .ok (.iload 5, 2) := by decide +kernel
theorem dd_P_firstToLeast_32 : decode bc_P_firstToLeast 32 = .ok (.iaload, 1) := by decide +kernel
theorem dd_P_firstToLeast_33 : decode bc_P_firstToLeast 33 = .ok (.istore 6, 2) := by decide +kernel
theorem dd_P_firstToLeast_35 : decode bc_P_firstToLeast 35 = .ok (.iload 4, 2) := by decide +kernel
theorem dd_P_firstToLeast_37 : decode bc_P_firstToLeast 37 = .ok (.bipush (-6), 2) := by decide +kernel
theorem dd_P_firstToLeast_39 : decode bc_P_firstToLeast 39 = .ok (.if_icmp .eq 10, 3) := by decide +kernel
theorem dd_P_firstToLeast_42 : decode bc_P_firstToLeast 42 = .ok (.iload 6, 2) := by decide +kernel
theorem dd_P_firstToLeast_44 : decode bc_P_firstToLeast 44 = .ok (.iload 4, 2) := by decide +kernel
theorem dd_P_firstToLeast_46 : decode bc_P_firstToLeast 46 = .ok (.if_icmp .ge 18, 3) := by decide +kernel
theorem dd_P_firstToLeast_49 : decode bc_P_firstToLeast 49 = .ok (.aload_n 0, 1) := by decide +kernel
theorem dd_P_firstToLeast_50 : decode bc_P_firstToLeast 50 = .ok (.iload_n 1, 1) := by decide +kernel
theorem dd_P_firstToLeast_51 : decode bc_P_firstToLeast 51 = .ok (.iload 6, 2) := by decide +kernel
theorem dd_P_firstToLeast_53 : decode bc_P_firstToLeast 53 = .ok (.invokevirtual 78, 3) := by decide +kernel
theorem dd_P_firstToLeast_56 : decode bc_P_firstToLeast 56 = .ok (.iload_n 3, 1) := by decide +kernel
theorem dd_P_firstToLeast_57 : decode bc_P_firstToLeast 57 = .ok (.if_icmp .ne 7, 3) := by decide +kernel
theorem dd_P_firstToLeast_60 : decode bc_P_firstToLeast 60 = .ok (.iload 6, 2) := by decide +kernel
theorem dd_P_firstToLeast_62 : decode bc_P_firstToLeast 62 = .ok (.istore 4, 2) := by decide +kernel
theorem dd_P_firstToLeast_64 : decode bc_P_firstToLeast 64 = .ok (.iinc 5 1, 3) := by decide +kernel
theorem dd_P_firstToLeast_67 : decode bc_P_firstToLeast 67 = .ok (.goto (-50), 3) := by decide +kernel
theorem dd_P_firstToLeast_70 : decode bc_P_firstToLeast 70 = .ok (.iload 4, 2) := by decide +kernel
theorem dd_P_firstToLeast_72 : decode bc_P_firstToLeast 72 = .ok (.ireturn, 1) := by decide +kernel
theorem dd_P_amountOfWeight_0 : decode bc_P_amountOfWeight 0 = .ok (.iconst 0, 1) := by decide +kernel
theorem dd_P_amountOfWeight_1 : decode bc_P_amountOfWeight 1 = .ok (.istore_n 3, 1) := by decide +kernel
theorem dd_P_amountOfWeight_2 : decode bc_P_amountOfWeight 2 = .ok (.iconst 0, 1) := by decide +kernel
theorem dd_P_amountOfWeight_3 : decode bc_P_amountOfWeight 3 = .ok (.istore 4, 2) := by decide +kernel
theorem dd_P_amountOfWeight_5 : decode bc_P_amountOfWeight 5 = .ok (.iload 4, 2) := by decide +kernel
theorem dd_P_amountOfWeight_7 : decode bc_P_amountOfWeight 7 = .ok (.aload_n 0, 1) := by decide +kernel
theorem dd_P_amountOfWeight_8 : decode bc_P_amountOfWeight 8 = .ok (.getfield 34, 3) := by decide +kernel
theorem dd_P_amountOfWeight_11 : decode bc_P_amountOfWeight 11 = .ok (.if_icmp .ge 26, 3) := by decide +kernel
theorem dd_P_amountOfWeight_14 : decode bc_P_amountOfWeight 14 = .ok (.aload_n 2, 1) := by decide +kernel
theorem dd_P_amountOfWeight_15 : decode bc_P_amountOfWeight 15 = .ok (.aload_n 0, 1) := by decide +kernel
theorem dd_P_amountOfWeight_16 : decode bc_P_amountOfWeight 16 = .ok (.iload 4, 2) := by decide +kernel
theorem dd_P_amountOfWeight_18 : decode bc_P_amountOfWeight 18 = .ok (.invokevirtual 90, 3) := by decide +kernel
theorem dd_P_amountOfWeight_21 : decode bc_P_amountOfWeight 21 = .ok (.invokevirtual 109, 3) := by decide +kernel
theorem dd_P_amountOfWeight_24 : decode bc_P_amountOfWeight 24 = .ok (.iload_n 1, 1) := by decide +kernel
theorem dd_P_amountOfWeight_25 : decode bc_P_amountOfWeight 25 = .ok (.if_icmp .ne 6, 3) := by decide +kernel
theorem dd_P_amountOfWeight_28 : decode bc_P_amountOfWeight 28 = .ok (.iinc 3 1, 3) := by decide +kernel
theorem dd_P_amountOfWeight_31 : decode bc_P_amountOfWeight 31 = .ok (.iinc 4 1, 3) := by decide +kernel
theorem dd_P_amountOfWeight_34 : decode bc_P_amountOfWeight 34 = .ok (.goto (-29), 3) := by decide +kernel
theorem dd_P_amountOfWeight_37 : decode bc_P_amountOfWeight 37 = .ok (.iload_n 3, 1) := by decide +kernel
theorem dd_P_amountOfWeight_38 : decode bc_P_amountOfWeight 38 = .ok (.ireturn, 1) := by decide +kernel
theorem dd_P_amountHanded_0 : decode bc_P_amountHanded 0 = .ok (.iconst 0, 1) := by decide +kernel
theorem dd_P_amountHanded_1 : decode bc_P_amountHanded 1 = .ok (.istore_n 2, 1) := by decide +kernel
theorem dd_P_amountHanded_2 : decode bc_P_amountHanded 2 = .ok (.iconst 0, 1) := by decide +kernel
theorem dd_P_amountHanded_3 : decode bc_P_amountHanded 3 = .ok (.istore_n 3, 1) := by decide +kernel
theorem dd_P_amountHanded_4 : decode bc_P_amountHanded 4 = .ok (.iload_n 3, 1) := by decide +kernel
theorem dd_P_amountHanded_5 : decode bc_P_amountHanded 5 = .ok (.aload_n 0, 1) := by decide +kernel
theorem dd_P_amountHanded_6 : decode bc_P_amountHanded 6 = .ok (.getfield 34, 3) := by decide +kernel
theorem dd_P_amountHanded_9 : decode bc_P_amountHanded 9 = .ok (.if_icmp .ge 22, 3) := by decide +kernel
theorem dd_P_amountHanded_12 : decode bc_P_amountHanded 12 = .ok (.aload_n 0, 1) := by decide +kernel
theorem dd_P_amountHanded_13 : decode bc_P_amountHanded 13 = .ok (.iload_n 3, 1) := by decide +kernel
theorem dd_P_amountHanded_14 : decode bc_P_amountHanded 14 = .ok (.aload_n 1, 1) := by decide +kernel
theorem dd_P_amountHanded_15 : decode bc_P_amountHanded 15 = .ok (.invokevirtual 112, 3) := by decide +kernel
theorem dd_P_amountHanded_18 : decode bc_P_amountHanded 18 = .ok (.iload_n 3, 1) := by decide +kernel
theorem dd_P_amountHanded_19 : decode bc_P_amountHanded 19 = .ok (.if_icmp .eq 6, 3) := by decide +kernel
theorem dd_P_amountHanded_22 : decode bc_P_amountHanded 22 = .ok (.iinc 2 1, 3) := by decide +kernel
theorem dd_P_amountHanded_25 : decode bc_P_amountHanded 25 = .ok (.iinc 3 1, 3) := by decide +kernel
theorem dd_P_amountHanded_28 : decode bc_P_amountHanded 28 = .ok (.goto (-24), 3) := by decide +kernel
theorem dd_P_amountHanded_31 : decode bc_P_amountHanded 31 = .ok (.iload_n 2, 1) := by decide +kernel
theorem dd_P_amountHanded_32 : decode bc_P_amountHanded 32 = .ok (.ireturn, 1) := by decide +kernel
theorem dd_P_amountOfAllColours_0 : decode bc_P_amountOfAllColours 0 = .ok (.iconst 0, 1) := by decide +kernel
theorem dd_P_amountOfAllColours_1 : decode bc_P_amountOfAllColours 1 = .ok (.istore_n 2, 1) := by decide +kernel
theorem dd_P_amountOfAllColours_2 : decode bc_P_amountOfAllColours 2 = .ok (.iconst 0, 1) := by decide +kernel
theorem dd_P_amountOfAllColours_3 : decode bc_P_amountOfAllColours 3 = .ok (.istore_n 3, 1) := by decide +kernel
theorem dd_P_amountOfAllColours_4 : decode bc_P_amountOfAllColours 4 = .ok (.iload_n 3, 1) := by decide +kernel
theorem dd_P_amountOfAllColours_5 : decode bc_P_amountOfAllColours 5 = .ok (.aload_n 0, 1) := by decide +kernel
theorem dd_P_amountOfAllColours_6 : decode bc_P_amountOfAllColours 6 = .ok (.getfield 34, 3) := by decide +kernel
theorem dd_P_amountOfAllColours_9 : decode bc_P_amountOfAllColours 9 = .ok (.if_icmp .ge 28, 3) := by decide +kernel
theorem dd_P_amountOfAllColours_12 : decode bc_P_amountOfAllColours 12 = .ok (.aload_n 1, 1) := by decide +kernel
theorem dd_P_amountOfAllColours_13 : decode bc_P_amountOfAllColours 13 = .ok (.aload_n 0, 1) := by decide +kernel
theorem dd_P_amountOfAllColours_14 : decode bc_P_amountOfAllColours 14 = .ok (.iload_n 3, 1) := by decide +kernel
theorem dd_P_amountOfAllColours_15 : decode bc_P_amountOfAllColours 15 = .ok (.invokevirtual 90, 3) := by decide +kernel
theorem dd_P_amountOfAllColours_18 : decode bc_P_amountOfAllColours 18 = .ok (.invokevirtual 116, 3) := by decide +kernel
theorem dd_P_amountOfAllColours_21 : decode bc_P_amountOfAllColours 21 = .ok (.aload_n 1, 1) := by decide +kernel
theorem dd_P_amountOfAllColours_22 : decode bc_P_amountOfAllColours 22 = .ok (.getfield 65, 3) := by decide +kernel
theorem dd_P_amountOfAllColours_25 : decode bc_P_amountOfAllColours 25 = .ok (.if_icmp .ne 6, 3) := by decide +kernel
theorem dd_P_amountOfAllColours_28 : decode bc_P_amountOfAllColours 28 = .ok (.iinc 2 1, 3) := by decide +kernel
theorem dd_P_amountOfAllColours_31 : decode bc_P_amountOfAllColours 31 = .ok (.iinc 3 1, 3) := by decide +kernel
theorem dd_P_amountOfAllColours_34 : decode bc_P_amountOfAllColours 34 = .ok (.goto (-30), 3) := by decide +kernel
theorem dd_P_amountOfAllColours_37 : decode bc_P_amountOfAllColours 37 = .ok (.iload_n 2, 1) := by decide +kernel
theorem dd_P_amountOfAllColours_38 : decode bc_P_amountOfAllColours 38 = .ok (.ireturn, 1) := by decide +kernel
theorem dd_P_amountAlone_0 : decode bc_P_amountAlone 0 = .ok (.iconst 0, 1) := by decide +kernel
theorem dd_P_amountAlone_1 : decode bc_P_amountAlone 1 = .ok (.istore_n 1, 1) := by decide +kernel
theorem dd_P_amountAlone_2 : decode bc_P_amountAlone 2 = .ok (.iconst 0, 1) := by decide +kernel
theorem dd_P_amountAlone_3 : decode bc_P_amountAlone 3 = .ok (.istore_n 2, 1) := by decide +kernel
theorem dd_P_amountAlone_4 : decode bc_P_amountAlone 4 = .ok (.iload_n 2, 1) := by decide +kernel
theorem dd_P_amountAlone_5 : decode bc_P_amountAlone 5 = .ok (.aload_n 0, 1) := by decide +kernel
theorem dd_P_amountAlone_6 : decode bc_P_amountAlone 6 = .ok (.getfield 34, 3) := by decide +kernel
theorem dd_P_amountAlone_9 : decode bc_P_amountAlone 9 = .ok (.if_icmp .ge 21, 3) := by decide +kernel
theorem dd_P_amountAlone_12 : decode bc_P_amountAlone 12 = .ok (.aload_n 0, 1) := by decide +kernel
theorem dd_P_amountAlone_13 : decode bc_P_amountAlone 13 = .ok (.iload_n 2, 1) := by decide +kernel
theorem dd_P_amountAlone_14 : decode bc_P_amountAlone 14 = .ok (.invokevirtual 100, 3) := by decide +kernel
theorem dd_P_amountAlone_17 : decode bc_P_amountAlone 17 = .ok (.iconst 1, 1) := by decide +kernel
theorem dd_P_amountAlone_18 : decode bc_P_amountAlone 18 = .ok (.if_icmp .ne 6, 3) := by decide +kernel
theorem dd_P_amountAlone_21 : decode bc_P_amountAlone 21 = .ok (.iinc 1 1, 3) := by decide +kernel
theorem dd_P_amountAlone_24 : decode bc_P_amountAlone 24 = .ok (.iinc 2 1, 3) := by decide +kernel
theorem dd_P_amountAlone_27 : decode bc_P_amountAlone 27 = .ok (.goto (-23), 3) := by decide +kernel
theorem dd_P_amountAlone_30 : decode bc_P_amountAlone 30 = .ok (.iload_n 1, 1) := by decide +kernel
theorem dd_P_amountAlone_31 : decode bc_P_amountAlone 31 = .ok (.ireturn, 1) := by decide +kernel
theorem dd_P_greatestSize_0 : decode bc_P_greatestSize 0 = .ok (.iconst 0, 1) := by decide +kernel
theorem dd_P_greatestSize_1 : decode bc_P_greatestSize 1 = .ok (.istore_n 1, 1) := by decide +kernel
theorem dd_P_greatestSize_2 : decode bc_P_greatestSize 2 = .ok (.iconst 0, 1) := by decide +kernel
theorem dd_P_greatestSize_3 : decode bc_P_greatestSize 3 = .ok (.istore_n 2, 1) := by decide +kernel
theorem dd_P_greatestSize_4 : decode bc_P_greatestSize 4 = .ok (.iload_n 2, 1) := by decide +kernel
theorem dd_P_greatestSize_5 : decode bc_P_greatestSize 5 = .ok (.aload_n 0, 1) := by decide +kernel
theorem dd_P_greatestSize_6 : decode bc_P_greatestSize 6 = .ok (.getfield 34, 3) := by decide +kernel
theorem dd_P_greatestSize_9 : decode bc_P_greatestSize 9 = .ok (.if_icmp .ge 19, 3) := by decide +kernel
theorem dd_P_greatestSize_12 : decode bc_P_greatestSize 12 = .ok (.iload_n 1, 1) := by decide +kernel
theorem dd_P_greatestSize_13 : decode bc_P_greatestSize 13 = .ok (.aload_n 0, 1) := by decide +kernel
theorem dd_P_greatestSize_14 : decode bc_P_greatestSize 14 = .ok (.iload_n 2, 1) := by decide +kernel
theorem dd_P_greatestSize_15 : decode bc_P_greatestSize 15 = .ok (.invokevirtual 100, 3) := by decide +kernel
theorem dd_P_greatestSize_18 : decode bc_P_greatestSize 18 = .ok (.invokestatic 119, 3) := by decide +kernel
theorem dd_P_greatestSize_21 : decode bc_P_greatestSize 21 = .ok (.istore_n 1, 1) := by decide +kernel
theorem dd_P_greatestSize_22 : decode bc_P_greatestSize 22 = .ok (.iinc 2 1, 3) := by decide +kernel
theorem dd_P_greatestSize_25 : decode bc_P_greatestSize 25 = .ok (.goto (-21), 3) := by decide +kernel
theorem dd_P_greatestSize_28 : decode bc_P_greatestSize 28 = .ok (.iload_n 1, 1) := by decide +kernel
theorem dd_P_greatestSize_29 : decode bc_P_greatestSize 29 = .ok (.ireturn, 1) := by decide +kernel
theorem dd_S_init_0 : decode bc_S_init 0 = .ok (.aload_n 0, 1) := by decide +kernel
theorem dd_S_init_1 : decode bc_S_init 1 = .ok (.invokespecial 3, 3) := by decide +kernel
theorem dd_S_init_4 : decode bc_S_init 4 = .ok (.aload_n 0, 1) := by decide +kernel
theorem dd_S_init_5 : decode bc_S_init 5 = .ok (.iconst 4, 1) := by decide +kernel
theorem dd_S_init_6 : decode bc_S_init 6 = .ok (.putfield 9, 3) := by decide +kernel
theorem dd_S_init_9 : decode bc_S_init 9 = .ok (.aload_n 0, 1) := by decide +kernel
theorem dd_S_init_10 : decode bc_S_init 10 = .ok (.iconst 2, 1) := by decide +kernel
theorem dd_S_init_11 : decode bc_S_init 11 = .ok (.putfield 15, 3) := by decide +kernel
theorem dd_S_init_14 : decode bc_S_init 14 = .ok (.aload_n 0, 1) := by decide +kernel
theorem dd_S_init_15 : decode bc_S_init 15 = .ok (.iconst 4, 1) := by decide +kernel
theorem dd_S_init_16 : decode bc_S_init 16 = .ok (.newarray .int, 2) := by decide +kernel
theorem dd_S_init_18 : decode bc_S_init 18 = .ok (.putfield 18, 3) := by decide +kernel
theorem dd_S_init_21 : decode bc_S_init 21 = .ok (.iconst 0, 1) := by decide +kernel
theorem dd_S_init_22 : decode bc_S_init 22 = .ok (.istore_n 1, 1) := by decide +kernel
theorem dd_S_init_23 : decode bc_S_init 23 = .ok (.iload_n 1, 1) := by decide +kernel
theorem dd_S_init_24 : decode bc_S_init 24 = .ok (.iconst 4, 1) := by decide +kernel
theorem dd_S_init_25 : decode bc_S_init 25 = .ok (.if_icmp .ge 16, 3) := by decide +kernel
theorem dd_S_init_28 : decode bc_S_init 28 = .ok (.aload_n 0, 1) := by decide +kernel
theorem dd_S_init_29 : decode bc_S_init 29 = .ok (.getfield 18, 3) := by decide +kernel
theorem dd_S_init_32 : decode bc_S_init 32 = .ok (.iload_n 1, 1) := by decide +kernel
theorem dd_S_init_33 : decode bc_S_init 33 = .ok (.iload_n 1, 1) := by decide +kernel
theorem dd_S_init_34 : decode bc_S_init 34 = .ok (.iastore, 1) := by decide +kernel
theorem dd_S_init_35 : decode bc_S_init 35 = .ok (.iinc 1 1, 3) := by decide +kernel
theorem dd_S_init_38 : decode bc_S_init 38 = .ok (.goto (-15), 3) := by decide +kernel
theorem dd_S_init_41 : decode bc_S_init 41 = .ok (.aload_n 0, 1) := by decide +kernel
theorem dd_S_init_42 : decode bc_S_init 42 = .ok (.new 22, 3) := by decide +kernel
theorem dd_S_init_45 : decode bc_S_init 45 = .ok (.dup, 1) := by decide +kernel
theorem dd_S_init_46 : decode bc_S_init 46 = .ok (.invokespecial 24, 3) := by decide +kernel
theorem dd_S_init_49 : decode bc_S_init 49 = .ok (.putfield 25, 3) := by decide +kernel
theorem dd_S_init_52 : decode bc_S_init 52 = .ok (.return_, 1) := by decide +kernel
theorem dd_S_copyFrom_0 : decode bc_S_copyFrom 0 = .ok (.aload_n 0, 1) := by decide +kernel
theorem dd_S_copyFrom_1 : decode bc_S_copyFrom 1 = .ok (.aload_n 1, 1) := by decide +kernel
theorem dd_S_copyFrom_2 : decode bc_S_copyFrom 2 = .ok (.getfield 9, 3) := by decide +kernel
theorem dd_S_copyFrom_5 : decode bc_S_copyFrom 5 = .ok (.putfield 9, 3) := by decide +kernel
theorem dd_S_copyFrom_8 : decode bc_S_copyFrom 8 = .ok (.aload_n 0, 1) := by decide +kernel
theorem dd_S_copyFrom_9 : decode bc_S_copyFrom 9 = .ok (.aload_n 1, 1) := by decide +kernel
theorem dd_S_copyFrom_10 : decode bc_S_copyFrom 10 = .ok (.getfield 15, 3) := by decide +kernel
theorem dd_S_copyFrom_13 : decode bc_S_copyFrom 13 = .ok (.putfield 15, 3) := by decide +kernel
theorem dd_S_copyFrom_16 : decode bc_S_copyFrom 16 = .ok (.aload_n 1, 1) := by decide +kernel
theorem dd_S_copyFrom_17 : decode bc_S_copyFrom 17 = .ok (.getfield 18, 3) := by decide +kernel
theorem dd_S_copyFrom_20 : decode bc_S_copyFrom 20 = .ok (.iconst 0, 1) := by decide +kernel
theorem dd_S_copyFrom_21 : decode bc_S_copyFrom 21 = .ok (.aload_n 0, 1) := by decide +kernel
theorem dd_S_copyFrom_22 : decode bc_S_copyFrom 22 = .ok (.getfield 18, 3) := by decide +kernel
theorem dd_S_copyFrom_25 : decode bc_S_copyFrom 25 = .ok (.iconst 0, 1) := by decide +kernel
theorem dd_S_copyFrom_26 : decode bc_S_copyFrom 26 = .ok (.aload_n 0, 1) := by decide +kernel
theorem dd_S_copyFrom_27 : decode bc_S_copyFrom 27 = .ok (.getfield 18, 3) := by decide +kernel
theorem dd_S_copyFrom_30 : decode bc_S_copyFrom 30 = .ok (.arraylength, 1) := by decide +kernel
theorem dd_S_copyFrom_31 : decode bc_S_copyFrom 31 = .ok (.invokestatic 29, 3) := by decide +kernel
theorem dd_S_copyFrom_34 : decode bc_S_copyFrom 34 = .ok (.aload_n 0, 1) := by decide +kernel
theorem dd_S_copyFrom_35 : decode bc_S_copyFrom 35 = .ok (.getfield 25, 3) := by decide +kernel
theorem dd_S_copyFrom_38 : decode bc_S_copyFrom 38 = .ok (.aload_n 1, 1) := by decide +kernel
theorem dd_S_copyFrom_39 : decode bc_S_copyFrom 39 = .ok (.getfield 25, 3) := by decide +kernel
theorem dd_S_copyFrom_42 : decode bc_S_copyFrom 42 = .ok (.invokevirtual 35, 3) := by decide +kernel
theorem dd_S_copyFrom_45 : decode bc_S_copyFrom 45 = .ok (.return_, 1) := by decide +kernel
theorem dd_S_colourings_0 : decode bc_S_colourings 0 = .ok (.iconst 1, 1) := by decide +kernel
theorem dd_S_colourings_1 : decode bc_S_colourings 1 = .ok (.istore_n 1, 1) := by decide +kernel
theorem dd_S_colourings_2 : decode bc_S_colourings 2 = .ok (.iconst 0, 1) := by decide +kernel
theorem dd_S_colourings_3 : decode bc_S_colourings 3 = .ok (.istore_n 2, 1) := by decide +kernel
theorem dd_S_colourings_4 : decode bc_S_colourings 4 = .ok (.iload_n 2, 1) := by decide +kernel
theorem dd_S_colourings_5 : decode bc_S_colourings 5 = .ok (.aload_n 0, 1) := by decide +kernel
theorem dd_S_colourings_6 : decode bc_S_colourings 6 = .ok (.getfield 9, 3) := by decide +kernel
theorem dd_S_colourings_9 : decode bc_S_colourings 9 = .ok (.if_icmp .ge 16, 3) := by decide +kernel
theorem dd_S_colourings_12 : decode bc_S_colourings 12 = .ok (.iload_n 1, 1) := by decide +kernel
theorem dd_S_colourings_13 : decode bc_S_colourings 13 = .ok (.aload_n 0, 1) := by decide +kernel
theorem dd_S_colourings_14 : decode bc_S_colourings 14 = .ok (.getfield 15, 3) := by decide +kernel
theorem dd_S_colourings_17 : decode bc_S_colourings 17 = .ok (.imul, 1) := by decide +kernel
theorem dd_S_colourings_18 : decode bc_S_colourings 18 = .ok (.istore_n 1, 1) := by decide +kernel
theorem dd_S_colourings_19 : decode bc_S_colourings 19 = .ok (.iinc 2 1, 3) := by decide +kernel
theorem dd_S_colourings_22 : decode bc_S_colourings 22 = .ok (.goto (-18), 3) := by decide +kernel
theorem dd_S_colourings_25 : decode bc_S_colourings 25 = .ok (.iload_n 1, 1) := by decide +kernel
theorem dd_S_colourings_26 : decode bc_S_colourings 26 = .ok (.ireturn, 1) := by decide +kernel
theorem dd_S_isReadable_0 : decode bc_S_isReadable 0 = .ok (.iload_n 1, 1) := by decide +kernel
theorem dd_S_isReadable_1 : decode bc_S_isReadable 1 = .ok (.ifCond .lt 19, 3) := by decide +kernel
theorem dd_S_isReadable_4 : decode bc_S_isReadable 4 = .ok (.aload_n 0, 1) := by decide +kernel
theorem dd_S_isReadable_5 : decode bc_S_isReadable 5 = .ok (.getfield 15, 3) := by decide +kernel
theorem dd_S_isReadable_8 : decode bc_S_isReadable 8 = .ok (.iconst 1, 1) := by decide +kernel
theorem dd_S_isReadable_9 : decode bc_S_isReadable 9 = .ok (.iconst 4, 1) := by decide +kernel
theorem dd_S_isReadable_10 : decode bc_S_isReadable 10 = .ok (.invokestatic 39, 3) := by decide +kernel
theorem dd_S_isReadable_13 : decode bc_S_isReadable 13 = .ok (.ifCond .eq 7, 3) := by decide +kernel
theorem dd_S_isReadable_16 : decode bc_S_isReadable 16 = .ok (.iconst 1, 1) := by decide +kernel
theorem dd_S_isReadable_17 : decode bc_S_isReadable 17 = .ok (.goto 4, 3) := by decide +kernel
theorem dd_S_isReadable_20 : decode bc_S_isReadable 20 = .ok (.iconst 0, 1) := by decide +kernel
theorem dd_S_isReadable_21 : decode bc_S_isReadable 21 = .ok (.ireturn, 1) := by decide +kernel
theorem dd_S_mirrored_0 : decode bc_S_mirrored 0 = .ok (.aload_n 0, 1) := by decide +kernel
theorem dd_S_mirrored_1 : decode bc_S_mirrored 1 = .ok (.iload_n 1, 1) := by decide +kernel
theorem dd_S_mirrored_2 : decode bc_S_mirrored 2 = .ok (.invokevirtual 43, 3) := by decide +kernel
theorem dd_S_mirrored_5 : decode bc_S_mirrored 5 = .ok (.ifCond .ne 5, 3) := by decide +kernel
theorem dd_S_mirrored_8 : decode bc_S_mirrored 8 = .ok (.iconst 0, 1) := by decide +kernel
theorem dd_S_mirrored_9 : decode bc_S_mirrored 9 = .ok (.ireturn, 1) := by decide +kernel
theorem dd_S_mirrored_10 : decode bc_S_mirrored 10 = .ok (.iload_n 1, 1) := by decide +kernel
theorem dd_S_mirrored_11 : decode bc_S_mirrored 11 = .ok (.istore_n 2, 1) := by decide +kernel
theorem dd_S_mirrored_12 : decode bc_S_mirrored 12 = .ok (.iconst 0, 1) := by decide +kernel
theorem dd_S_mirrored_13 : decode bc_S_mirrored 13 = .ok (.istore_n 3, 1) := by decide +kernel
theorem dd_S_mirrored_14 : decode bc_S_mirrored 14 = .ok (.iconst 0, 1) := by decide +kernel
theorem dd_S_mirrored_15 : decode bc_S_mirrored 15 = .ok (.istore 4, 2) := by decide +kernel
theorem dd_S_mirrored_17 : decode bc_S_mirrored 17 = .ok (.iload 4, 2) := by decide +kernel
theorem dd_S_mirrored_19 : decode bc_S_mirrored 19 = .ok (.aload_n 0, 1) := by decide +kernel
theorem dd_S_mirrored_20 : decode bc_S_mirrored 20 = .ok (.getfield 9, 3) := by decide +kernel
theorem dd_S_mirrored_23 : decode bc_S_mirrored 23 = .ok (.if_icmp .ge 30, 3) := by decide +kernel
theorem dd_S_mirrored_26 : decode bc_S_mirrored 26 = .ok (.iload_n 3, 1) := by decide +kernel
theorem dd_S_mirrored_27 : decode bc_S_mirrored 27 = .ok (.aload_n 0, 1) := by decide +kernel
theorem dd_S_mirrored_28 : decode bc_S_mirrored 28 = .ok (.getfield 15, 3) := by decide +kernel
theorem dd_S_mirrored_31 : decode bc_S_mirrored 31 = .ok (.imul, 1) := by decide +kernel
theorem dd_S_mirrored_32 : decode bc_S_mirrored 32 = .ok (.iload_n 2, 1) := by decide +kernel
theorem dd_S_mirrored_33 : decode bc_S_mirrored 33 = .ok (.aload_n 0, 1) := by decide +kernel
theorem dd_S_mirrored_34 : decode bc_S_mirrored 34 = .ok (.getfield 15, 3) := by decide +kernel
theorem dd_S_mirrored_37 : decode bc_S_mirrored 37 = .ok (.irem, 1) := by decide +kernel
theorem dd_S_mirrored_38 : decode bc_S_mirrored 38 = .ok (.iadd, 1) := by decide +kernel
theorem dd_S_mirrored_39 : decode bc_S_mirrored 39 = .ok (.istore_n 3, 1) := by decide +kernel
theorem dd_S_mirrored_40 : decode bc_S_mirrored 40 = .ok (.iload_n 2, 1) := by decide +kernel
theorem dd_S_mirrored_41 : decode bc_S_mirrored 41 = .ok (.aload_n 0, 1) := by decide +kernel
theorem dd_S_mirrored_42 : decode bc_S_mirrored 42 = .ok (.getfield 15, 3) := by decide +kernel
theorem dd_S_mirrored_45 : decode bc_S_mirrored 45 = .ok (.idiv, 1) := by decide +kernel
theorem dd_S_mirrored_46 : decode bc_S_mirrored 46 = .ok (.istore_n 2, 1) := by decide +kernel
theorem dd_S_mirrored_47 : decode bc_S_mirrored 47 = .ok (.iinc 4 1, 3) := by decide +kernel
theorem dd_S_mirrored_50 : decode bc_S_mirrored 50 = .ok (.goto (-33), 3) := by decide +kernel
theorem dd_S_mirrored_53 : decode bc_S_mirrored 53 = .ok (.iload_n 3, 1) := by decide +kernel
theorem dd_S_mirrored_54 : decode bc_S_mirrored 54 = .ok (.ireturn, 1) := by decide +kernel
theorem dd_S_weightOf_0 : decode bc_S_weightOf 0 = .ok (.aload_n 0, 1) := by decide +kernel
theorem dd_S_weightOf_1 : decode bc_S_weightOf 1 = .ok (.iload_n 1, 1) := by decide +kernel
theorem dd_S_weightOf_2 : decode bc_S_weightOf 2 = .ok (.invokevirtual 43, 3) := by decide +kernel
theorem dd_S_weightOf_5 : decode bc_S_weightOf 5 = .ok (.ifCond .ne 5, 3) := by decide +kernel
theorem dd_S_weightOf_8 : decode bc_S_weightOf 8 = .ok (.iconst 0, 1) := by decide +kernel
theorem dd_S_weightOf_9 : decode bc_S_weightOf 9 = .ok (.ireturn, 1) := by decide +kernel
theorem dd_S_weightOf_10 : decode bc_S_weightOf 10 = .ok (.iload_n 1, 1) := by decide +kernel
theorem dd_S_weightOf_11 : decode bc_S_weightOf 11 = .ok (.istore_n 2, 1) := by decide +kernel
theorem dd_S_weightOf_12 : decode bc_S_weightOf 12 = .ok (.iconst 0, 1) := by decide +kernel
theorem dd_S_weightOf_13 : decode bc_S_weightOf 13 = .ok (.istore_n 3, 1) := by decide +kernel
theorem dd_S_weightOf_14 : decode bc_S_weightOf 14 = .ok (.iconst 0, 1) := by decide +kernel
theorem dd_S_weightOf_15 : decode bc_S_weightOf 15 = .ok (.istore 4, 2) := by decide +kernel
theorem dd_S_weightOf_17 : decode bc_S_weightOf 17 = .ok (.iload 4, 2) := by decide +kernel
theorem dd_S_weightOf_19 : decode bc_S_weightOf 19 = .ok (.aload_n 0, 1) := by decide +kernel
theorem dd_S_weightOf_20 : decode bc_S_weightOf 20 = .ok (.getfield 9, 3) := by decide +kernel
theorem dd_S_weightOf_23 : decode bc_S_weightOf 23 = .ok (.if_icmp .ge 30, 3) := by decide +kernel
theorem dd_S_weightOf_26 : decode bc_S_weightOf 26 = .ok (.iload_n 3, 1) := by decide +kernel
theorem dd_S_weightOf_27 : decode bc_S_weightOf 27 = .ok (.aload_n 0, 1) := by decide +kernel
theorem dd_S_weightOf_28 : decode bc_S_weightOf 28 = .ok (.getfield 18, 3) := by decide +kernel
theorem dd_S_weightOf_31 : decode bc_S_weightOf 31 = .ok (.iload_n 2, 1) := by decide +kernel
theorem dd_S_weightOf_32 : decode bc_S_weightOf 32 = .ok (.aload_n 0, 1) := by decide +kernel
theorem dd_S_weightOf_33 : decode bc_S_weightOf 33 = .ok (.getfield 15, 3) := by decide +kernel
theorem dd_S_weightOf_36 : decode bc_S_weightOf 36 = .ok (.irem, 1) := by decide +kernel
theorem dd_S_weightOf_37 : decode bc_S_weightOf 37 = .ok (.iaload, 1) := by decide +kernel
theorem dd_S_weightOf_38 : decode bc_S_weightOf 38 = .ok (.iadd, 1) := by decide +kernel
theorem dd_S_weightOf_39 : decode bc_S_weightOf 39 = .ok (.istore_n 3, 1) := by decide +kernel
theorem dd_S_weightOf_40 : decode bc_S_weightOf 40 = .ok (.iload_n 2, 1) := by decide +kernel
theorem dd_S_weightOf_41 : decode bc_S_weightOf 41 = .ok (.aload_n 0, 1) := by decide +kernel
theorem dd_S_weightOf_42 : decode bc_S_weightOf 42 = .ok (.getfield 15, 3) := by decide +kernel
theorem dd_S_weightOf_45 : decode bc_S_weightOf 45 = .ok (.idiv, 1) := by decide +kernel
theorem dd_S_weightOf_46 : decode bc_S_weightOf 46 = .ok (.istore_n 2, 1) := by decide +kernel
theorem dd_S_weightOf_47 : decode bc_S_weightOf 47 = .ok (.iinc 4 1, 3) := by decide +kernel
theorem dd_S_weightOf_50 : decode bc_S_weightOf 50 = .ok (.goto (-33), 3) := by decide +kernel
theorem dd_S_weightOf_53 : decode bc_S_weightOf 53 = .ok (.iload_n 3, 1) := by decide +kernel
theorem dd_S_weightOf_54 : decode bc_S_weightOf 54 = .ok (.ireturn, 1) := by decide +kernel
theorem dd_S_coloursOf_0 : decode bc_S_coloursOf 0 = .ok (.aload_n 0, 1) := by decide +kernel
theorem dd_S_coloursOf_1 : decode bc_S_coloursOf 1 = .ok (.iload_n 1, 1) := by decide +kernel
theorem dd_S_coloursOf_2 : decode bc_S_coloursOf 2 = .ok (.invokevirtual 43, 3) := by decide +kernel
theorem dd_S_coloursOf_5 : decode bc_S_coloursOf 5 = .ok (.ifCond .ne 5, 3) := by decide +kernel
theorem dd_S_coloursOf_8 : decode bc_S_coloursOf 8 = .ok (.iconst 0, 1) := by decide +kernel
theorem dd_S_coloursOf_9 : decode bc_S_coloursOf 9 = .ok (.ireturn, 1) := by decide +kernel
theorem dd_S_coloursOf_10 : decode bc_S_coloursOf 10 = .ok (.iload_n 1, 1) := by decide +kernel
theorem dd_S_coloursOf_11 : decode bc_S_coloursOf 11 = .ok (.istore_n 2, 1) := by decide +kernel
theorem dd_S_coloursOf_12 : decode bc_S_coloursOf 12 = .ok (.iconst 0, 1) := by decide +kernel
theorem dd_S_coloursOf_13 : decode bc_S_coloursOf 13 = .ok (.istore_n 3, 1) := by decide +kernel
theorem dd_S_coloursOf_14 : decode bc_S_coloursOf 14 = .ok (.iconst 0, 1) := by decide +kernel
theorem dd_S_coloursOf_15 : decode bc_S_coloursOf 15 = .ok (.istore 4, 2) := by decide +kernel
theorem dd_S_coloursOf_17 : decode bc_S_coloursOf 17 = .ok (.iload 4, 2) := by decide +kernel
theorem dd_S_coloursOf_19 : decode bc_S_coloursOf 19 = .ok (.aload_n 0, 1) := by decide +kernel
theorem dd_S_coloursOf_20 : decode bc_S_coloursOf 20 = .ok (.getfield 9, 3) := by decide +kernel
theorem dd_S_coloursOf_23 : decode bc_S_coloursOf 23 = .ok (.if_icmp .ge 27, 3) := by decide +kernel
theorem dd_S_coloursOf_26 : decode bc_S_coloursOf 26 = .ok (.iload_n 3, 1) := by decide +kernel
theorem dd_S_coloursOf_27 : decode bc_S_coloursOf 27 = .ok (.iconst 1, 1) := by decide +kernel
theorem dd_S_coloursOf_28 : decode bc_S_coloursOf 28 = .ok (.iload_n 2, 1) := by decide +kernel
theorem dd_S_coloursOf_29 : decode bc_S_coloursOf 29 = .ok (.aload_n 0, 1) := by decide +kernel
theorem dd_S_coloursOf_30 : decode bc_S_coloursOf 30 = .ok (.getfield 15, 3) := by decide +kernel
theorem dd_S_coloursOf_33 : decode bc_S_coloursOf 33 = .ok (.irem, 1) := by decide +kernel
theorem dd_S_coloursOf_34 : decode bc_S_coloursOf 34 = .ok (.ishl, 1) := by decide +kernel
theorem dd_S_coloursOf_35 : decode bc_S_coloursOf 35 = .ok (.ior, 1) := by decide +kernel
theorem dd_S_coloursOf_36 : decode bc_S_coloursOf 36 = .ok (.istore_n 3, 1) := by decide +kernel
theorem dd_S_coloursOf_37 : decode bc_S_coloursOf 37 = .ok (.iload_n 2, 1) := by decide +kernel
theorem dd_S_coloursOf_38 : decode bc_S_coloursOf 38 = .ok (.aload_n 0, 1) := by decide +kernel
theorem dd_S_coloursOf_39 : decode bc_S_coloursOf 39 = .ok (.getfield 15, 3) := by decide +kernel
theorem dd_S_coloursOf_42 : decode bc_S_coloursOf 42 = .ok (.idiv, 1) := by decide +kernel
theorem dd_S_coloursOf_43 : decode bc_S_coloursOf 43 = .ok (.istore_n 2, 1) := by decide +kernel
theorem dd_S_coloursOf_44 : decode bc_S_coloursOf 44 = .ok (.iinc 4 1, 3) := by decide +kernel
theorem dd_S_coloursOf_47 : decode bc_S_coloursOf 47 = .ok (.goto (-30), 3) := by decide +kernel
theorem dd_S_coloursOf_50 : decode bc_S_coloursOf 50 = .ok (.iload_n 3, 1) := by decide +kernel
theorem dd_S_coloursOf_51 : decode bc_S_coloursOf 51 = .ok (.invokestatic 47, 3) := by decide +kernel
theorem dd_S_coloursOf_54 : decode bc_S_coloursOf 54 = .ok (.ireturn, 1) := by decide +kernel
theorem dd_U_goal_0 : decode bc_U_goal 0 = .ok (.iload_n 0, 1) := by decide +kernel
theorem dd_U_goal_1 : decode bc_U_goal 1 = .ok (.iconst 3, 1) := by decide +kernel
theorem dd_U_goal_2 : decode bc_U_goal 2 = .ok (.bipush 6, 2) := by decide +kernel
theorem dd_U_goal_4 : decode bc_U_goal 4 = .ok (.iload_n 1, 1) := by decide +kernel
theorem dd_U_goal_5 : decode bc_U_goal 5 = .ok (.isub, 1) := by decide +kernel
theorem dd_U_goal_6 : decode bc_U_goal 6 = .ok (.imul, 1) := by decide +kernel
theorem dd_U_goal_7 : decode bc_U_goal 7 = .ok (.ishr, 1) := by decide +kernel
theorem dd_U_goal_8 : decode bc_U_goal 8 = .ok (.bipush 7, 2) := by decide +kernel
theorem dd_U_goal_10 : decode bc_U_goal 10 = .ok (.iand, 1) := by decide +kernel
theorem dd_U_goal_11 : decode bc_U_goal 11 = .ok (.ireturn, 1) := by decide +kernel
theorem dd_U_withGoal_0 : decode bc_U_withGoal 0 = .ok (.iconst 3, 1) := by decide +kernel
theorem dd_U_withGoal_1 : decode bc_U_withGoal 1 = .ok (.bipush 6, 2) := by decide +kernel
theorem dd_U_withGoal_3 : decode bc_U_withGoal 3 = .ok (.iload_n 1, 1) := by decide +kernel
theorem dd_U_withGoal_4 : decode bc_U_withGoal 4 = .ok (.isub, 1) := by decide +kernel
theorem dd_U_withGoal_5 : decode bc_U_withGoal 5 = .ok (.imul, 1) := by decide +kernel
theorem dd_U_withGoal_6 : decode bc_U_withGoal 6 = .ok (.istore_n 3, 1) := by decide +kernel
theorem dd_U_withGoal_7 : decode bc_U_withGoal 7 = .ok (.iload_n 0, 1) := by decide +kernel
theorem dd_U_withGoal_8 : decode bc_U_withGoal 8 = .ok (.bipush 7, 2) := by decide +kernel
theorem dd_U_withGoal_10 : decode bc_U_withGoal 10 = .ok (.iload_n 3, 1) := by decide +kernel
theorem dd_U_withGoal_11 : decode bc_U_withGoal 11 = .ok (.ishl, 1) := by decide +kernel
theorem dd_U_withGoal_12 : decode bc_U_withGoal 12 = .ok (.iconst (-1), 1) := by decide +kernel
theorem dd_U_withGoal_13 : decode bc_U_withGoal 13 = .ok (.ixor, 1) := by decide +kernel
theorem dd_U_withGoal_14 : decode bc_U_withGoal 14 = .ok (.iand, 1) := by decide +kernel
theorem dd_U_withGoal_15 : decode bc_U_withGoal 15 = .ok (.iload_n 2, 1) := by decide +kernel
theorem dd_U_withGoal_16 : decode bc_U_withGoal 16 = .ok (.iload_n 3, 1) := by decide +kernel
theorem dd_U_withGoal_17 : decode bc_U_withGoal 17 = .ok (.ishl, 1) := by decide +kernel
theorem dd_U_withGoal_18 : decode bc_U_withGoal 18 = .ok (.ior, 1) := by decide +kernel
theorem dd_U_withGoal_19 : decode bc_U_withGoal 19 = .ok (.ireturn, 1) := by decide +kernel
theorem dd_U_oneThenOther_0 : decode bc_U_oneThenOther 0 = .ok (.iconst 0, 1) := by decide +kernel
theorem dd_U_oneThenOther_1 : decode bc_U_oneThenOther 1 = .ok (.istore_n 2, 1) := by decide +kernel
theorem dd_U_oneThenOther_2 : decode bc_U_oneThenOther 2 = .ok (.iconst 0, 1) := by decide +kernel
theorem dd_U_oneThenOther_3 : decode bc_U_oneThenOther 3 = .ok (.istore_n 3, 1) := by decide +kernel
theorem dd_U_oneThenOther_4 : decode bc_U_oneThenOther 4 = .ok (.iload_n 3, 1) := by decide +kernel
theorem dd_U_oneThenOther_5 : decode bc_U_oneThenOther 5 = .ok (.bipush 7, 2) := by decide +kernel
theorem dd_U_oneThenOther_7 : decode bc_U_oneThenOther 7 = .ok (.if_icmp .ge 23, 3) := by decide +kernel
theorem dd_U_oneThenOther_10 : decode bc_U_oneThenOther 10 = .ok (.iload_n 2, 1) := by decide +kernel
theorem dd_U_oneThenOther_11 : decode bc_U_oneThenOther 11 = .ok (.iconst 3, 1) := by decide +kernel
theorem dd_U_oneThenOther_12 : decode bc_U_oneThenOther 12 = .ok (.ishl, 1) := by decide +kernel
theorem dd_U_oneThenOther_13 : decode bc_U_oneThenOther 13 = .ok (.iload_n 1, 1) := by decide +kernel
theorem dd_U_oneThenOther_14 : decode bc_U_oneThenOther 14 = .ok (.iload_n 0, 1) := by decide +kernel
theorem dd_U_oneThenOther_15 : decode bc_U_oneThenOther 15 = .ok (.iload_n 3, 1) := by decide +kernel
theorem dd_U_oneThenOther_16 : decode bc_U_oneThenOther 16 = .ok (.invokestatic 9, 3) := by decide +kernel
theorem dd_U_oneThenOther_19 : decode bc_U_oneThenOther 19 = .ok (.invokestatic 9, 3) := by decide +kernel
theorem dd_U_oneThenOther_22 : decode bc_U_oneThenOther 22 = .ok (.ior, 1) := by decide +kernel
theorem dd_U_oneThenOther_23 : decode bc_U_oneThenOther 23 = .ok (.istore_n 2, 1) := by decide +kernel
theorem dd_U_oneThenOther_24 : decode bc_U_oneThenOther 24 = .ok (.iinc 3 1, 3) := by decide +kernel
theorem dd_U_oneThenOther_27 : decode bc_U_oneThenOther 27 = .ok (.goto (-23), 3) := by decide +kernel
theorem dd_U_oneThenOther_30 : decode bc_U_oneThenOther 30 = .ok (.iload_n 2, 1) := by decide +kernel
theorem dd_U_oneThenOther_31 : decode bc_U_oneThenOther 31 = .ok (.ireturn, 1) := by decide +kernel
theorem dd_U_rank_0 : decode bc_U_rank 0 = .ok (.iconst 0, 1) := by decide +kernel
theorem dd_U_rank_1 : decode bc_U_rank 1 = .ok (.istore_n 1, 1) := by decide +kernel
theorem dd_U_rank_2 : decode bc_U_rank 2 = .ok (.iconst 0, 1) := by decide +kernel
theorem dd_U_rank_3 : decode bc_U_rank 3 = .ok (.istore_n 2, 1) := by decide +kernel
theorem dd_U_rank_4 : decode bc_U_rank 4 = .ok (.iconst 0, 1) := by decide +kernel
theorem dd_U_rank_5 : decode bc_U_rank 5 = .ok (.istore_n 3, 1) := by decide +kernel
theorem dd_U_rank_6 : decode bc_U_rank 6 = .ok (.iload_n 3, 1) := by decide +kernel
theorem dd_U_rank_7 : decode bc_U_rank 7 = .ok (.bipush 7, 2) := by decide +kernel
theorem dd_U_rank_9 : decode bc_U_rank 9 = .ok (.if_icmp .ge 49, 3) := by decide +kernel
theorem dd_U_rank_12 : decode bc_U_rank 12 = .ok (.iload_n 0, 1) := by decide +kernel
theorem dd_U_rank_13 : decode bc_U_rank 13 = .ok (.iload_n 3, 1) := by decide +kernel
theorem dd_U_rank_14 : decode bc_U_rank 14 = .ok (.invokestatic 9, 3) := by decide +kernel
theorem dd_U_rank_17 : decode bc_U_rank 17 = .ok (.istore 4, 2) := by decide +kernel
theorem dd_U_rank_19 : decode bc_U_rank 19 = .ok (.iload 4, 2) := by decide +kernel
theorem dd_U_rank_21 : decode bc_U_rank 21 = .ok (.iload_n 2, 1) := by decide +kernel
theorem dd_U_rank_22 : decode bc_U_rank 22 = .ok (.iconst 1, 1) := by decide +kernel
theorem dd_U_rank_23 : decode bc_U_rank 23 = .ok (.iload 4, 2) := by decide +kernel
theorem dd_U_rank_25 : decode bc_U_rank 25 = .ok (.ishl, 1) := by decide +kernel
theorem dd_U_rank_26 : decode bc_U_rank 26 = .ok (.iconst 1, 1) := by decide +kernel
theorem dd_U_rank_27 : decode bc_U_rank 27 = .ok (.isub, 1) := by decide +kernel
theorem dd_U_rank_28 : decode bc_U_rank 28 = .ok (.iand, 1) := by decide +kernel
theorem dd_U_rank_29 : decode bc_U_rank 29 = .ok (.invokestatic 15, 3) := by decide +kernel
theorem dd_U_rank_32 : decode bc_U_rank 32 = .ok (.isub, 1) := by decide +kernel
theorem dd_U_rank_33 : decode bc_U_rank 33 = .ok (.istore 5, 2) := by decide +kernel
theorem dd_U_rank_35 : decode bc_U_rank 35 = .ok (.iload_n 1, 1) := by decide +kernel
theorem dd_U_rank_36 : decode bc_U_rank 36 = .ok (.bipush 7, 2) := by decide +kernel
theorem dd_U_rank_38 : decode bc_U_rank 38 = .ok (.iload_n 3, 1) := by decide +kernel
theorem dd_U_rank_39 : decode bc_U_rank 39 = .ok (.isub, 1) := by decide +kernel
theorem dd_U_rank_40 : decode bc_U_rank 40 = .ok (.imul, 1) := by decide +kernel
theorem dd_U_rank_41 : decode bc_U_rank 41 = .ok (.iload 5, 2) := by decide +kernel
theorem dd_U_rank_43 : decode bc_U_rank 43 = .ok (.iadd, 1) := by decide +kernel
theorem dd_U_rank_44 : decode bc_U_rank 44 = .ok (.istore_n 1, 1) := by decide +kernel
theorem dd_U_rank_45 : decode bc_U_rank 45 = .ok (.iload_n 2, 1) := by decide +kernel
theorem dd_U_rank_46 : decode bc_U_rank 46 = .ok (.iconst 1, 1) := by decide +kernel
theorem dd_U_rank_47 : decode bc_U_rank 47 = .ok (.iload 4, 2) := by decide +kernel
theorem dd_U_rank_49 : decode bc_U_rank 49 = .ok (.ishl, 1) := by decide +kernel
theorem dd_U_rank_50 : decode bc_U_rank 50 = .ok (.ior, 1) := by decide +kernel
theorem dd_U_rank_51 : decode bc_U_rank 51 = .ok (.istore_n 2, 1) := by decide +kernel
theorem dd_U_rank_52 : decode bc_U_rank 52 = .ok (.iinc 3 1, 3) := by decide +kernel
theorem dd_U_rank_55 : decode bc_U_rank 55 = .ok (.goto (-49), 3) := by decide +kernel
theorem dd_U_rank_58 : decode bc_U_rank 58 = .ok (.iload_n 1, 1) := by decide +kernel
theorem dd_U_rank_59 : decode bc_U_rank 59 = .ok (.ireturn, 1) := by decide +kernel
theorem dd_U_typeOf_0 : decode bc_U_typeOf 0 = .ok (.iload_n 0, 1) := by decide +kernel
theorem dd_U_typeOf_1 : decode bc_U_typeOf 1 = .ok (.iload_n 1, 1) := by decide +kernel
theorem dd_U_typeOf_2 : decode bc_U_typeOf 2 = .ok (.invokestatic 21, 3) := by decide +kernel
theorem dd_U_typeOf_5 : decode bc_U_typeOf 5 = .ok (.istore_n 2, 1) := by decide +kernel
theorem dd_U_typeOf_6 : decode bc_U_typeOf 6 = .ok (.iconst 0, 1) := by decide +kernel
theorem dd_U_typeOf_7 : decode bc_U_typeOf 7 = .ok (.istore_n 3, 1) := by decide +kernel
theorem dd_U_typeOf_8 : decode bc_U_typeOf 8 = .ok (.iload_n 1, 1) := by decide +kernel
theorem dd_U_typeOf_9 : decode bc_U_typeOf 9 = .ok (.istore 4, 2) := by decide +kernel
theorem dd_U_typeOf_11 : decode bc_U_typeOf 11 = .ok (.iload 4, 2) := by decide +kernel
theorem dd_U_typeOf_13 : decode bc_U_typeOf 13 = .ok (.iconst 1, 1) := by decide +kernel
theorem dd_U_typeOf_14 : decode bc_U_typeOf 14 = .ok (.if_icmp .lt 44, 3) := by decide +kernel
theorem dd_U_typeOf_17 : decode bc_U_typeOf 17 = .ok (.iload_n 2, 1) := by decide +kernel
theorem dd_U_typeOf_18 : decode bc_U_typeOf 18 = .ok (.iconst 4, 1) := by decide +kernel
theorem dd_U_typeOf_19 : decode bc_U_typeOf 19 = .ok (.iload 4, 2) := by decide +kernel
theorem dd_U_typeOf_21 : decode bc_U_typeOf 21 = .ok (.imul, 1) := by decide +kernel
theorem dd_U_typeOf_22 : decode bc_U_typeOf 22 = .ok (.ishr, 1) := by decide +kernel
theorem dd_U_typeOf_23 : decode bc_U_typeOf 23 = .ok (.bipush 15, 2) := by decide +kernel
theorem dd_U_typeOf_25 : decode bc_U_typeOf 25 = .ok (.iand, 1) := by decide +kernel
theorem dd_U_typeOf_26 : decode bc_U_typeOf 26 = .ok (.istore 5, 2) := by decide +kernel
theorem dd_U_typeOf_28 : decode bc_U_typeOf 28 = .ok (.iconst 0, 1) := by decide +kernel
theorem dd_U_typeOf_29 : decode bc_U_typeOf 29 = .ok (.istore 6, 2) := by decide +kernel
theorem dd_U_typeOf_31 : decode bc_U_typeOf 31 = .ok (.iload 6, 2) := by decide +kernel
theorem dd_U_typeOf_33 : decode bc_U_typeOf 33 = .ok (.iload 5, 2) := by decide +kernel
theorem dd_U_typeOf_35 : decode bc_U_typeOf 35 = .ok (.if_icmp .ge 17, 3) := by decide +kernel
theorem dd_U_typeOf_38 : decode bc_U_typeOf 38 = .ok (.iload_n 3, 1) := by decide +kernel
theorem dd_U_typeOf_39 : decode bc_U_typeOf 39 = .ok (.bipush 10, 2) := by decide +kernel
theorem dd_U_typeOf_41 : decode bc_U_typeOf 41 = .ok (.imul, 1) := by decide +kernel
theorem dd_U_typeOf_42 : decode bc_U_typeOf 42 = .ok (.iload 4, 2) := by decide +kernel
theorem dd_U_typeOf_44 : decode bc_U_typeOf 44 = .ok (.iadd, 1) := by decide +kernel
theorem dd_U_typeOf_45 : decode bc_U_typeOf 45 = .ok (.istore_n 3, 1) := by decide +kernel
theorem dd_U_typeOf_46 : decode bc_U_typeOf 46 = .ok (.iinc 6 1, 3) := by decide +kernel
theorem dd_U_typeOf_49 : decode bc_U_typeOf 49 = .ok (.goto (-18), 3) := by decide +kernel
theorem dd_U_typeOf_52 : decode bc_U_typeOf 52 = .ok (.iinc 4 (-1), 3) := by decide +kernel
theorem dd_U_typeOf_55 : decode bc_U_typeOf 55 = .ok (.goto (-44), 3) := by decide +kernel
theorem dd_U_typeOf_58 : decode bc_U_typeOf 58 = .ok (.iload_n 3, 1) := by decide +kernel
theorem dd_U_typeOf_59 : decode bc_U_typeOf 59 = .ok (.ireturn, 1) := by decide +kernel
theorem dd_U_tallyCycles_0 : decode bc_U_tallyCycles 0 = .ok (.iconst 0, 1) := by decide +kernel
theorem dd_U_tallyCycles_1 : decode bc_U_tallyCycles 1 = .ok (.istore_n 2, 1) := by decide +kernel
theorem dd_U_tallyCycles_2 : decode bc_U_tallyCycles 2 = .ok (.iconst 0, 1) := by decide +kernel
theorem dd_U_tallyCycles_3 : decode bc_U_tallyCycles 3 = .ok (.istore_n 3, 1) := by decide +kernel
theorem dd_U_tallyCycles_4 : decode bc_U_tallyCycles 4 = .ok (.iconst 0, 1) := by decide +kernel
theorem dd_U_tallyCycles_5 : decode bc_U_tallyCycles 5 = .ok (.istore 4, 2) := by decide +kernel
theorem dd_U_tallyCycles_7 : decode bc_U_tallyCycles 7 = .ok (.iload 4, 2) := by decide +kernel
theorem dd_U_tallyCycles_9 : decode bc_U_tallyCycles 9 = .ok (.iload_n 1, 1) := by decide +kernel
theorem dd_U_tallyCycles_10 : decode bc_U_tallyCycles 10 = .ok (.if_icmp .ge 67, 3) := by decide +kernel
theorem dd_U_tallyCycles_13 : decode bc_U_tallyCycles 13 = .ok (.iconst 0, 1) := by decide +kernel
theorem dd_U_tallyCycles_14 : decode bc_U_tallyCycles 14 = .ok (.istore 5, 2) := by decide +kernel
theorem dd_U_tallyCycles_16 : decode bc_U_tallyCycles 16 = .ok (.iload 4, 2) := by decide +kernel
theorem dd_U_tallyCycles_18 : decode bc_U_tallyCycles 18 = .ok (.istore 6, 2) := by decide +kernel
theorem dd_U_tallyCycles_20 : decode bc_U_tallyCycles 20 = .ok (.iload_n 3, 1) := by decide +kernel
theorem dd_U_tallyCycles_21 : decode bc_U_tallyCycles 21 = .ok (.iload 6, 2) := by decide +kernel
theorem dd_U_tallyCycles_23 : decode bc_U_tallyCycles 23 = .ok (.ishr, 1) := by decide +kernel
theorem dd_U_tallyCycles_24 : decode bc_U_tallyCycles 24 = .ok (.iconst 1, 1) := by decide +kernel
theorem dd_U_tallyCycles_25 : decode bc_U_tallyCycles 25 = .ok (.iand, 1) := by decide +kernel
theorem dd_U_tallyCycles_26 : decode bc_U_tallyCycles 26 = .ok (.ifCond .ne 31, 3) := by decide +kernel
theorem dd_U_tallyCycles_29 : decode bc_U_tallyCycles 29 = .ok (.iload 5, 2) := by decide +kernel
theorem dd_U_tallyCycles_31 : decode bc_U_tallyCycles 31 = .ok (.bipush 7, 2) := by decide +kernel
theorem dd_U_tallyCycles_33 : decode bc_U_tallyCycles 33 = .ok (.if_icmp .ge 24, 3) := by decide +kernel
theorem dd_U_tallyCycles_36 : decode bc_U_tallyCycles 36 = .ok (.iload_n 3, 1) := by decide +kernel
theorem dd_U_tallyCycles_37 : decode bc_U_tallyCycles 37 = .ok (.iconst 1, 1) := by decide +kernel
theorem dd_U_tallyCycles_38 : decode bc_U_tallyCycles 38 = .ok (.iload 6, 2) := by decide +kernel
theorem dd_U_tallyCycles_40 : decode bc_U_tallyCycles 40 = .ok (.ishl, 1) := by decide +kernel
theorem dd_U_tallyCycles_41 : decode bc_U_tallyCycles 41 = .ok (.ior, 1) := by decide +kernel
theorem dd_U_tallyCycles_42 : decode bc_U_tallyCycles 42 = .ok (.istore_n 3, 1) := by decide +kernel
theorem dd_U_tallyCycles_43 : decode bc_U_tallyCycles 43 = .ok (.iload_n 0, 1) := by decide +kernel
theorem dd_U_tallyCycles_44 : decode bc_U_tallyCycles 44 = .ok (.iload 6, 2) := by decide +kernel
theorem dd_U_tallyCycles_46 : decode bc_U_tallyCycles 46 = .ok (.invokestatic 9, 3) := by decide +kernel
theorem dd_U_tallyCycles_49 : decode bc_U_tallyCycles 49 = .ok (.istore 6, 2) := by decide +kernel
theorem dd_U_tallyCycles_51 : decode bc_U_tallyCycles 51 = .ok (.iinc 5 1, 3) := by decide +kernel
theorem dd_U_tallyCycles_54 : decode bc_U_tallyCycles 54 = .ok (.goto (-34), 3) := by decide +kernel
theorem dd_U_tallyCycles_57 : decode bc_U_tallyCycles 57 = .ok (.iload 5, 2) := by decide +kernel
theorem dd_U_tallyCycles_59 : decode bc_U_tallyCycles 59 = .ok (.ifCond .le 12, 3) := by decide +kernel
theorem dd_U_tallyCycles_62 : decode bc_U_tallyCycles 62 = .ok (.iload_n 2, 1) := by decide +kernel
theorem dd_U_tallyCycles_63 : decode bc_U_tallyCycles 63 = .ok (.iconst 1, 1) := by decide +kernel
theorem dd_U_tallyCycles_64 : decode bc_U_tallyCycles 64 = .ok (.iconst 4, 1) := by decide +kernel
theorem dd_U_tallyCycles_65 : decode bc_U_tallyCycles 65 = .ok (.iload 5, 2) := by decide +kernel
theorem dd_U_tallyCycles_67 : decode bc_U_tallyCycles 67 = .ok (.imul, 1) := by decide +kernel
theorem dd_U_tallyCycles_68 : decode bc_U_tallyCycles 68 = .ok (.ishl, 1) := by decide +kernel
theorem dd_U_tallyCycles_69 : decode bc_U_tallyCycles 69 = .ok (.iadd, 1) := by decide +kernel
theorem dd_U_tallyCycles_70 : decode bc_U_tallyCycles 70 = .ok (.istore_n 2, 1) := by decide +kernel
theorem dd_U_tallyCycles_71 : decode bc_U_tallyCycles 71 = .ok (.iinc 4 1, 3) := by decide +kernel
theorem dd_U_tallyCycles_74 : decode bc_U_tallyCycles 74 = .ok (.goto (-67), 3) := by decide +kernel
theorem dd_U_tallyCycles_77 : decode bc_U_tallyCycles 77 = .ok (.iload_n 2, 1) := by decide +kernel
theorem dd_U_tallyCycles_78 : decode bc_U_tallyCycles 78 = .ok (.ireturn, 1) := by decide +kernel
theorem dd_U_timesTillStill_0 : decode bc_U_timesTillStill 0 = .ok (.iload_n 0, 1) := by decide +kernel
theorem dd_U_timesTillStill_1 : decode bc_U_timesTillStill 1 = .ok (.istore_n 1, 1) := by decide +kernel
theorem dd_U_timesTillStill_2 : decode bc_U_timesTillStill 2 = .ok (.iconst 1, 1) := by decide +kernel
theorem dd_U_timesTillStill_3 : decode bc_U_timesTillStill 3 = .ok (.istore_n 2, 1) := by decide +kernel
theorem dd_U_timesTillStill_4 : decode bc_U_timesTillStill 4 = .ok (.iload_n 1, 1) := by decide +kernel
theorem dd_U_timesTillStill_5 : decode bc_U_timesTillStill 5 = .ok (.ldc 24, 2) := by decide +kernel
theorem dd_U_timesTillStill_7 : decode bc_U_timesTillStill 7 = .ok (.if_icmp .eq 21, 3) := by decide +kernel
theorem dd_U_timesTillStill_10 : decode bc_U_timesTillStill 10 = .ok (.iload_n 2, 1) := by decide +kernel
theorem dd_U_timesTillStill_11 : decode bc_U_timesTillStill 11 = .ok (.bipush 12, 2) := by decide +kernel
theorem dd_U_timesTillStill_13 : decode bc_U_timesTillStill 13 = .ok (.if_icmp .ge 15, 3) := by decide +kernel
theorem dd_U_timesTillStill_16 : decode bc_U_timesTillStill 16 = .ok (.iload_n 1, 1) := by decide +kernel
theorem dd_U_timesTillStill_17 : decode bc_U_timesTillStill 17 = .ok (.iload_n 0, 1) := by decide +kernel
theorem dd_U_timesTillStill_18 : decode bc_U_timesTillStill 18 = .ok (.invokestatic 25, 3) := by decide +kernel
theorem dd_U_timesTillStill_21 : decode bc_U_timesTillStill 21 = .ok (.istore_n 1, 1) := by decide +kernel
theorem dd_U_timesTillStill_22 : decode bc_U_timesTillStill 22 = .ok (.iinc 2 1, 3) := by decide +kernel
theorem dd_U_timesTillStill_25 : decode bc_U_timesTillStill 25 = .ok (.goto (-21), 3) := by decide +kernel
theorem dd_U_timesTillStill_28 : decode bc_U_timesTillStill 28 = .ok (.iload_n 2, 1) := by decide +kernel
theorem dd_U_timesTillStill_29 : decode bc_U_timesTillStill 29 = .ok (.ireturn, 1) := by decide +kernel
theorem dd_U_roundTurn_0 : decode bc_U_roundTurn 0 = .ok (.ldc 24, 2) := by decide +kernel
theorem dd_U_roundTurn_2 : decode bc_U_roundTurn 2 = .ok (.istore_n 3, 1) := by decide +kernel
theorem dd_U_roundTurn_3 : decode bc_U_roundTurn 3 = .ok (.iconst 0, 1) := by decide +kernel
theorem dd_U_roundTurn_4 : decode bc_U_roundTurn 4 = .ok (.istore 4, 2) := by decide +kernel
theorem dd_U_roundTurn_6 : decode bc_U_roundTurn 6 = .ok (.iload 4, 2) := by decide +kernel
theorem dd_U_roundTurn_8 : decode bc_U_roundTurn 8 = .ok (.iload_n 1, 1) := by decide +kernel
theorem dd_U_roundTurn_9 : decode bc_U_roundTurn 9 = .ok (.if_icmp .ge 45, 3) := by decide +kernel
theorem dd_U_roundTurn_12 : decode bc_U_roundTurn 12 = .ok (.iload 4, 2) := by decide +kernel
theorem dd_U_roundTurn_14 : decode bc_U_roundTurn 14 = .ok (.iconst 1, 1) := by decide +kernel
theorem dd_U_roundTurn_15 : decode bc_U_roundTurn 15 = .ok (.iadd, 1) := by decide +kernel
theorem dd_U_roundTurn_16 : decode bc_U_roundTurn 16 = .ok (.iload_n 1, 1) := by decide +kernel
theorem dd_U_roundTurn_17 : decode bc_U_roundTurn 17 = .ok (.if_icmp .ge 10, 3) := by decide +kernel
theorem dd_U_roundTurn_20 : decode bc_U_roundTurn 20 = .ok (.iload 4, 2) := by decide +kernel
theorem dd_U_roundTurn_22 : decode bc_U_roundTurn 22 = .ok (.iconst 1, 1) := by decide +kernel
theorem dd_U_roundTurn_23 : decode bc_U_roundTurn 23 = .ok (.iadd, 1) := by decide +kernel
theorem dd_U_roundTurn_24 : decode bc_U_roundTurn 24 = .ok (.goto 4, 3) := by decide +kernel
theorem dd_U_roundTurn_27 : decode bc_U_roundTurn 27 = .ok (.iconst 0, 1) := by decide +kernel
theorem dd_U_roundTurn_28 : decode bc_U_roundTurn 28 = .ok (.istore 5, 2) := by decide +kernel
theorem dd_U_roundTurn_30 : decode bc_U_roundTurn 30 = .ok (.iload_n 3, 1) := by decide +kernel
theorem dd_U_roundTurn_31 : decode bc_U_roundTurn 31 = .ok (.iload_n 0, 1) := by decide +kernel
theorem dd_U_roundTurn_32 : decode bc_U_roundTurn 32 = .ok (.iload 4, 2) := by decide +kernel
theorem dd_U_roundTurn_34 : decode bc_U_roundTurn 34 = .ok (.iload_n 2, 1) := by decide +kernel
theorem dd_U_roundTurn_35 : decode bc_U_roundTurn 35 = .ok (.imul, 1) := by decide +kernel
theorem dd_U_roundTurn_36 : decode bc_U_roundTurn 36 = .ok (.iadd, 1) := by decide +kernel
theorem dd_U_roundTurn_37 : decode bc_U_roundTurn 37 = .ok (.iload_n 0, 1) := by decide +kernel
theorem dd_U_roundTurn_38 : decode bc_U_roundTurn 38 = .ok (.iload 5, 2) := by decide +kernel
theorem dd_U_roundTurn_40 : decode bc_U_roundTurn 40 = .ok (.iload_n 2, 1) := by decide +kernel
theorem dd_U_roundTurn_41 : decode bc_U_roundTurn 41 = .ok (.imul, 1) := by decide +kernel
theorem dd_U_roundTurn_42 : decode bc_U_roundTurn 42 = .ok (.iadd, 1) := by decide +kernel
theorem dd_U_roundTurn_43 : decode bc_U_roundTurn 43 = .ok (.iload_n 2, 1) := by decide +kernel
theorem dd_U_roundTurn_44 : decode bc_U_roundTurn 44 = .ok (.invokestatic 28, 3) := by decide +kernel
theorem dd_U_roundTurn_47 : decode bc_U_roundTurn 47 = .ok (.istore_n 3, 1) := by decide +kernel
theorem dd_U_roundTurn_48 : decode bc_U_roundTurn 48 = .ok (.iinc 4 1, 3) := by decide +kernel
theorem dd_U_roundTurn_51 : decode bc_U_roundTurn 51 = .ok (.goto (-45), 3) := by decide +kernel
theorem dd_U_roundTurn_54 : decode bc_U_roundTurn 54 = .ok (.iload_n 3, 1) := by decide +kernel
theorem dd_U_roundTurn_55 : decode bc_U_roundTurn 55 = .ok (.ireturn, 1) := by decide +kernel
theorem dd_U_flipTurn_0 : decode bc_U_flipTurn 0 = .ok (.ldc 24, 2) := by decide +kernel
theorem dd_U_flipTurn_2 : decode bc_U_flipTurn 2 = .ok (.istore_n 3, 1) := by decide +kernel
theorem dd_U_flipTurn_3 : decode bc_U_flipTurn 3 = .ok (.iconst 0, 1) := by decide +kernel
theorem dd_U_flipTurn_4 : decode bc_U_flipTurn 4 = .ok (.istore 4, 2) := by decide +kernel
theorem dd_U_flipTurn_6 : decode bc_U_flipTurn 6 = .ok (.iload 4, 2) := by decide +kernel
theorem dd_U_flipTurn_8 : decode bc_U_flipTurn 8 = .ok (.iload_n 1, 1) := by decide +kernel
theorem dd_U_flipTurn_9 : decode bc_U_flipTurn 9 = .ok (.if_icmp .ge 31, 3) := by decide +kernel
theorem dd_U_flipTurn_12 : decode bc_U_flipTurn 12 = .ok (.iload_n 3, 1) := by decide +kernel
theorem dd_U_flipTurn_13 : decode bc_U_flipTurn 13 = .ok (.iload_n 0, 1) := by decide +kernel
theorem dd_U_flipTurn_14 : decode bc_U_flipTurn 14 = .ok (.iload 4, 2) := by decide +kernel
theorem dd_U_flipTurn_16 : decode bc_U_flipTurn 16 = .ok (.iload_n 2, 1) := by decide +kernel
theorem dd_U_flipTurn_17 : decode bc_U_flipTurn 17 = .ok (.imul, 1) := by decide +kernel
theorem dd_U_flipTurn_18 : decode bc_U_flipTurn 18 = .ok (.iadd, 1) := by decide +kernel
theorem dd_U_flipTurn_19 : decode bc_U_flipTurn 19 = .ok (.iload_n 0, 1) := by decide +kernel
theorem dd_U_flipTurn_20 : decode bc_U_flipTurn 20 = .ok (.iload_n 1, 1) := by decide +kernel
theorem dd_U_flipTurn_21 : decode bc_U_flipTurn 21 = .ok (.iconst 1, 1) := by decide +kernel
theorem dd_U_flipTurn_22 : decode bc_U_flipTurn 22 = .ok (.isub, 1) := by decide +kernel
theorem dd_U_flipTurn_23 : decode bc_U_flipTurn 23 = .ok (.iload 4, 2) := by decide +kernel
theorem dd_U_flipTurn_25 : decode bc_U_flipTurn 25 = .ok (.isub, 1) := by decide +kernel
theorem dd_U_flipTurn_26 : decode bc_U_flipTurn 26 = .ok (.iload_n 2, 1) := by decide +kernel
theorem dd_U_flipTurn_27 : decode bc_U_flipTurn 27 = .ok (.imul, 1) := by decide +kernel
theorem dd_U_flipTurn_28 : decode bc_U_flipTurn 28 = .ok (.iadd, 1) := by decide +kernel
theorem dd_U_flipTurn_29 : decode bc_U_flipTurn 29 = .ok (.iload_n 2, 1) := by decide +kernel
theorem dd_U_flipTurn_30 : decode bc_U_flipTurn 30 = .ok (.invokestatic 28, 3) := by decide +kernel
theorem dd_U_flipTurn_33 : decode bc_U_flipTurn 33 = .ok (.istore_n 3, 1) := by decide +kernel
theorem dd_U_flipTurn_34 : decode bc_U_flipTurn 34 = .ok (.iinc 4 1, 3) := by decide +kernel
theorem dd_U_flipTurn_37 : decode bc_U_flipTurn 37 = .ok (.goto (-31), 3) := by decide +kernel
theorem dd_U_flipTurn_40 : decode bc_U_flipTurn 40 = .ok (.iload_n 3, 1) := by decide +kernel
theorem dd_U_flipTurn_41 : decode bc_U_flipTurn 41 = .ok (.ireturn, 1) := by decide +kernel
theorem dd_U_withThing_0 : decode bc_U_withThing 0 = .ok (.iload_n 0, 1) := by decide +kernel
theorem dd_U_withThing_1 : decode bc_U_withThing 1 = .ok (.istore 4, 2) := by decide +kernel
theorem dd_U_withThing_3 : decode bc_U_withThing 3 = .ok (.iconst 0, 1) := by decide +kernel
theorem dd_U_withThing_4 : decode bc_U_withThing 4 = .ok (.istore 5, 2) := by decide +kernel
theorem dd_U_withThing_6 : decode bc_U_withThing 6 = .ok (.iload 5, 2) := by decide +kernel
theorem dd_U_withThing_8 : decode bc_U_withThing 8 = .ok (.iload_n 3, 1) := by decide +kernel
theorem dd_U_withThing_9 : decode bc_U_withThing 9 = .ok (.if_icmp .ge 24, 3) := by decide +kernel
theorem dd_U_withThing_12 : decode bc_U_withThing 12 = .ok (.iload 4, 2) := by decide +kernel
theorem dd_U_withThing_14 : decode bc_U_withThing 14 = .ok (.iload_n 1, 1) := by decide +kernel
theorem dd_U_withThing_15 : decode bc_U_withThing 15 = .ok (.iload 5, 2) := by decide +kernel
theorem dd_U_withThing_17 : decode bc_U_withThing 17 = .ok (.iadd, 1) := by decide +kernel
theorem dd_U_withThing_18 : decode bc_U_withThing 18 = .ok (.iload_n 2, 1) := by decide +kernel
theorem dd_U_withThing_19 : decode bc_U_withThing 19 = .ok (.iload 5, 2) := by decide +kernel
theorem dd_U_withThing_21 : decode bc_U_withThing 21 = .ok (.iadd, 1) := by decide +kernel
theorem dd_U_withThing_22 : decode bc_U_withThing 22 = .ok (.invokestatic 32, 3) := by decide +kernel
theorem dd_U_withThing_25 : decode bc_U_withThing 25 = .ok (.istore 4, 2) := by decide +kernel
theorem dd_U_withThing_27 : decode bc_U_withThing 27 = .ok (.iinc 5 1, 3) := by decide +kernel
theorem dd_U_withThing_30 : decode bc_U_withThing 30 = .ok (.goto (-24), 3) := by decide +kernel
theorem dd_U_withThing_33 : decode bc_U_withThing 33 = .ok (.iload 4, 2) := by decide +kernel
theorem dd_U_withThing_35 : decode bc_U_withThing 35 = .ok (.ireturn, 1) := by decide +kernel
theorem dd_Y_init_0 : decode bc_Y_init 0 = .ok (.aload_n 0, 1) := by decide +kernel
theorem dd_Y_init_1 : decode bc_Y_init 1 = .ok (.invokespecial 3, 3) := by decide +kernel
theorem dd_Y_init_4 : decode bc_Y_init 4 = .ok (.aload_n 0, 1) := by decide +kernel
theorem dd_Y_init_5 : decode bc_Y_init 5 = .ok (.bipush 15, 2) := by decide +kernel
theorem dd_Y_init_7 : decode bc_Y_init 7 = .ok (.newarray .int, 2) := by decide +kernel
theorem dd_Y_init_9 : decode bc_Y_init 9 = .ok (.putfield 9, 3) := by decide +kernel
theorem dd_Y_init_12 : decode bc_Y_init 12 = .ok (.aload_n 0, 1) := by decide +kernel
theorem dd_Y_init_13 : decode bc_Y_init 13 = .ok (.bipush 15, 2) := by decide +kernel
theorem dd_Y_init_15 : decode bc_Y_init 15 = .ok (.newarray .int, 2) := by decide +kernel
theorem dd_Y_init_17 : decode bc_Y_init 17 = .ok (.putfield 15, 3) := by decide +kernel
theorem dd_Y_init_20 : decode bc_Y_init 20 = .ok (.aload_n 0, 1) := by decide +kernel
theorem dd_Y_init_21 : decode bc_Y_init 21 = .ok (.iconst 0, 1) := by decide +kernel
theorem dd_Y_init_22 : decode bc_Y_init 22 = .ok (.putfield 18, 3) := by decide +kernel
theorem dd_Y_init_25 : decode bc_Y_init 25 = .ok (.aload_n 0, 1) := by decide +kernel
theorem dd_Y_init_26 : decode bc_Y_init 26 = .ok (.iconst 0, 1) := by decide +kernel
theorem dd_Y_init_27 : decode bc_Y_init 27 = .ok (.putfield 22, 3) := by decide +kernel
theorem dd_Y_init_30 : decode bc_Y_init 30 = .ok (.return_, 1) := by decide +kernel
theorem dd_Y_bringUp_0 : decode bc_Y_bringUp 0 = .ok (.aload_n 0, 1) := by decide +kernel
theorem dd_Y_bringUp_1 : decode bc_Y_bringUp 1 = .ok (.getfield 22, 3) := by decide +kernel
theorem dd_Y_bringUp_4 : decode bc_Y_bringUp 4 = .ok (.ifCond .eq 4, 3) := by decide +kernel
theorem dd_Y_bringUp_7 : decode bc_Y_bringUp 7 = .ok (.return_, 1) := by decide +kernel
theorem dd_Y_bringUp_8 : decode bc_Y_bringUp 8 = .ok (.aload_n 0, 1) := by decide +kernel
theorem dd_Y_bringUp_9 : decode bc_Y_bringUp 9 = .ok (.iconst 0, 1) := by decide +kernel
theorem dd_Y_bringUp_10 : decode bc_Y_bringUp 10 = .ok (.putfield 18, 3) := by decide +kernel
theorem dd_Y_bringUp_13 : decode bc_Y_bringUp 13 = .ok (.iconst 0, 1) := by decide +kernel
theorem dd_Y_bringUp_14 : decode bc_Y_bringUp 14 = .ok (.istore_n 2, 1) := by decide +kernel
theorem dd_Y_bringUp_15 : decode bc_Y_bringUp 15 = .ok (.iload_n 2, 1) := by decide +kernel
theorem dd_Y_bringUp_16 : decode bc_Y_bringUp 16 = .ok (.aload_n 1, 1) := by decide +kernel
theorem dd_Y_bringUp_17 : decode bc_Y_bringUp 17 = .ok (.getfield 26, 3) := by decide +kernel
theorem dd_Y_bringUp_20 : decode bc_Y_bringUp 20 = .ok (.getfield 32, 3) := by decide +kernel
theorem dd_Y_bringUp_23 : decode bc_Y_bringUp 23 = .ok (.if_icmp .ge 29, 3) := by decide +kernel
theorem dd_Y_bringUp_26 : decode bc_Y_bringUp 26 = .ok (.aload_n 0, 1) := by decide +kernel
theorem dd_Y_bringUp_27 : decode bc_Y_bringUp 27 = .ok (.aload_n 1, 1) := by decide +kernel
theorem dd_Y_bringUp_28 : decode bc_Y_bringUp 28 = .ok (.getfield 26, 3) := by decide +kernel
theorem dd_Y_bringUp_31 : decode bc_Y_bringUp 31 = .ok (.getfield 37, 3) := by decide +kernel
theorem dd_Y_bringUp_34 : decode bc_Y_bringUp 34 = .ok (.iload_n 2, 1) := by decide +kernel
theorem dd_Y_bringUp_35 : decode bc_Y_bringUp 35 = .ok (.iaload, 1) := by decide +kernel
theorem dd_Y_bringUp_36 : decode bc_Y_bringUp 36 = .ok (.aload_n 1, 1) := by decide +kernel
theorem dd_Y_bringUp_37 : decode bc_Y_bringUp 37 = .ok (.getfield 38, 3) := by decide +kernel
theorem dd_Y_bringUp_40 : decode bc_Y_bringUp 40 = .ok (.invokestatic 41, 3) := by decide +kernel
theorem dd_Y_bringUp_43 : decode bc_Y_bringUp 43 = .ok (.invokevirtual 47, 3) := by decide +kernel
theorem dd_Y_bringUp_46 : decode bc_Y_bringUp 46 = .ok (.iinc 2 1, 3) := by decide +kernel
theorem dd_Y_bringUp_49 : decode bc_Y_bringUp 49 = .ok (.goto (-34), 3) := by decide +kernel
theorem dd_Y_bringUp_52 : decode bc_Y_bringUp 52 = .ok (.aload_n 0, 1) := by decide +kernel
theorem dd_Y_bringUp_53 : decode bc_Y_bringUp 53 = .ok (.iconst 1, 1) := by decide +kernel
theorem dd_Y_bringUp_54 : decode bc_Y_bringUp 54 = .ok (.putfield 22, 3) := by decide +kernel
theorem dd_Y_bringUp_57 : decode bc_Y_bringUp 57 = .ok (.return_, 1) := by decide +kernel
theorem dd_Y_add_0 : decode bc_Y_add 0 = .ok (.iconst 0, 1) := by decide +kernel
theorem dd_Y_add_1 : decode bc_Y_add 1 = .ok (.istore_n 2, 1) := by decide +kernel
theorem dd_Y_add_2 : decode bc_Y_add 2 = .ok (.iload_n 2, 1) := by decide +kernel
theorem dd_Y_add_3 : decode bc_Y_add 3 = .ok (.aload_n 0, 1) := by decide +kernel
theorem dd_Y_add_4 : decode bc_Y_add 4 = .ok (.getfield 18, 3) := by decide +kernel
theorem dd_Y_add_7 : decode bc_Y_add 7 = .ok (.if_icmp .ge 19, 3) := by decide +kernel
theorem dd_Y_add_10 : decode bc_Y_add 10 = .ok (.aload_n 0, 1) := by decide +kernel
theorem dd_Y_add_11 : decode bc_Y_add 11 = .ok (.getfield 9, 3) := by decide +kernel
theorem dd_Y_add_14 : decode bc_Y_add 14 = .ok (.iload_n 2, 1) := by decide +kernel
theorem dd_Y_add_15 : decode bc_Y_add 15 = .ok (.iaload, 1) := by decide +kernel
theorem dd_Y_add_16 : decode bc_Y_add 16 = .ok (.iload_n 1, 1) := by decide +kernel
theorem dd_Y_add_17 : decode bc_Y_add 17 = .ok (.if_icmp .le 9, 3) := by decide +kernel
theorem dd_Y_add_20 : decode bc_Y_add 20 = .ok (.iinc 2 1, 3) := by decide +kernel
theorem dd_Y_add_23 : decode bc_Y_add 23 = .ok (.goto (-21), 3) := by decide +kernel
theorem dd_Y_add_26 : decode bc_Y_add 26 = .ok (.iload_n 2, 1) := by decide +kernel
theorem dd_Y_add_27 : decode bc_Y_add 27 = .ok (.aload_n 0, 1) := by decide +kernel
theorem dd_Y_add_28 : decode bc_Y_add 28 = .ok (.getfield 18, 3) := by decide +kernel
theorem dd_Y_add_31 : decode bc_Y_add 31 = .ok (.if_icmp .ge 26, 3) := by decide +kernel
theorem dd_Y_add_34 : decode bc_Y_add 34 = .ok (.aload_n 0, 1) := by decide +kernel
theorem dd_Y_add_35 : decode bc_Y_add 35 = .ok (.getfield 9, 3) := by decide +kernel
theorem dd_Y_add_38 : decode bc_Y_add 38 = .ok (.iload_n 2, 1) := by decide +kernel
theorem dd_Y_add_39 : decode bc_Y_add 39 = .ok (.iaload, 1) := by decide +kernel
theorem dd_Y_add_40 : decode bc_Y_add 40 = .ok (.iload_n 1, 1) := by decide +kernel
theorem dd_Y_add_41 : decode bc_Y_add 41 = .ok (.if_icmp .ne 16, 3) := by decide +kernel
theorem dd_Y_add_44 : decode bc_Y_add 44 = .ok (.aload_n 0, 1) := by decide +kernel
theorem dd_Y_add_45 : decode bc_Y_add 45 = .ok (.getfield 15, 3) := by decide +kernel
theorem dd_Y_add_48 : decode bc_Y_add 48 = .ok (.iload_n 2, 1) := by decide +kernel
theorem dd_Y_add_49 : decode bc_Y_add 49 = .ok (.dup2, 1) := by decide +kernel
theorem dd_Y_add_50 : decode bc_Y_add 50 = .ok (.iaload, 1) := by decide +kernel
theorem dd_Y_add_51 : decode bc_Y_add 51 = .ok (.iconst 1, 1) := by decide +kernel
theorem dd_Y_add_52 : decode bc_Y_add 52 = .ok (.iadd, 1) := by decide +kernel
theorem dd_Y_add_53 : decode bc_Y_add 53 = .ok (.iastore, 1) := by decide +kernel
theorem dd_Y_add_54 : decode bc_Y_add 54 = .ok (.goto 18, 3) := by decide +kernel
theorem dd_Y_add_57 : decode bc_Y_add 57 = .ok (.aload_n 0, 1) := by decide +kernel
theorem dd_Y_add_58 : decode bc_Y_add 58 = .ok (.getfield 18, 3) := by decide +kernel
theorem dd_Y_add_61 : decode bc_Y_add 61 = .ok (.bipush 15, 2) := by decide +kernel
theorem dd_Y_add_63 : decode bc_Y_add 63 = .ok (.if_icmp .ge 9, 3) := by decide +kernel
theorem dd_Y_add_66 : decode bc_Y_add 66 = .ok (.aload_n 0, 1) := by decide +kernel
theorem dd_Y_add_67 : decode bc_Y_add 67 = .ok (.iload_n 2, 1) := by decide +kernel
theorem dd_Y_add_68 : decode bc_Y_add 68 = .ok (.iload_n 1, 1) := by decide +kernel
theorem dd_Y_add_69 : decode bc_Y_add 69 = .ok (.invokevirtual 51, 3) := by decide +kernel
theorem dd_Y_add_72 : decode bc_Y_add 72 = .ok (.return_, 1) := by decide +kernel
theorem dd_Y_insert_0 : decode bc_Y_insert 0 = .ok (.aload_n 0, 1) := by decide +kernel
theorem dd_Y_insert_1 : decode bc_Y_insert 1 = .ok (.getfield 18, 3) := by decide +kernel
theorem dd_Y_insert_4 : decode bc_Y_insert 4 = .ok (.istore_n 3, 1) := by decide +kernel
theorem dd_Y_insert_5 : decode bc_Y_insert 5 = .ok (.iload_n 3, 1) := by decide +kernel
theorem dd_Y_insert_6 : decode bc_Y_insert 6 = .ok (.iload_n 1, 1) := by decide +kernel
theorem dd_Y_insert_7 : decode bc_Y_insert 7 = .ok (.if_icmp .le 37, 3) := by decide +kernel
theorem dd_Y_insert_10 : decode bc_Y_insert 10 = .ok (.aload_n 0, 1) := by decide +kernel
theorem dd_Y_insert_11 : decode bc_Y_insert 11 = .ok (.getfield 9, 3) := by decide +kernel
theorem dd_Y_insert_14 : decode bc_Y_insert 14 = .ok (.iload_n 3, 1) := by decide +kernel
theorem dd_Y_insert_15 : decode bc_Y_insert 15 = .ok (.aload_n 0, 1) := by decide +kernel
theorem dd_Y_insert_16 : decode bc_Y_insert 16 = .ok (.getfield 9, 3) := by decide +kernel
theorem dd_Y_insert_19 : decode bc_Y_insert 19 = .ok (.iload_n 3, 1) := by decide +kernel
theorem dd_Y_insert_20 : decode bc_Y_insert 20 = .ok (.iconst 1, 1) := by decide +kernel
theorem dd_Y_insert_21 : decode bc_Y_insert 21 = .ok (.isub, 1) := by decide +kernel
theorem dd_Y_insert_22 : decode bc_Y_insert 22 = .ok (.iaload, 1) := by decide +kernel
theorem dd_Y_insert_23 : decode bc_Y_insert 23 = .ok (.iastore, 1) := by decide +kernel
theorem dd_Y_insert_24 : decode bc_Y_insert 24 = .ok (.aload_n 0, 1) := by decide +kernel
theorem dd_Y_insert_25 : decode bc_Y_insert 25 = .ok (.getfield 15, 3) := by decide +kernel
theorem dd_Y_insert_28 : decode bc_Y_insert 28 = .ok (.iload_n 3, 1) := by decide +kernel
theorem dd_Y_insert_29 : decode bc_Y_insert 29 = .ok (.aload_n 0, 1) := by decide +kernel
theorem dd_Y_insert_30 : decode bc_Y_insert 30 = .ok (.getfield 15, 3) := by decide +kernel
theorem dd_Y_insert_33 : decode bc_Y_insert 33 = .ok (.iload_n 3, 1) := by decide +kernel
theorem dd_Y_insert_34 : decode bc_Y_insert 34 = .ok (.iconst 1, 1) := by decide +kernel
theorem dd_Y_insert_35 : decode bc_Y_insert 35 = .ok (.isub, 1) := by decide +kernel
theorem dd_Y_insert_36 : decode bc_Y_insert 36 = .ok (.iaload, 1) := by decide +kernel
theorem dd_Y_insert_37 : decode bc_Y_insert 37 = .ok (.iastore, 1) := by decide +kernel
theorem dd_Y_insert_38 : decode bc_Y_insert 38 = .ok (.iinc 3 (-1), 3) := by decide +kernel
theorem dd_Y_insert_41 : decode bc_Y_insert 41 = .ok (.goto (-36), 3) := by decide +kernel
theorem dd_Y_insert_44 : decode bc_Y_insert 44 = .ok (.aload_n 0, 1) := by decide +kernel
theorem dd_Y_insert_45 : decode bc_Y_insert 45 = .ok (.getfield 9, 3) := by decide +kernel
theorem dd_Y_insert_48 : decode bc_Y_insert 48 = .ok (.iload_n 1, 1) := by decide +kernel
theorem dd_Y_insert_49 : decode bc_Y_insert 49 = .ok (.iload_n 2, 1) := by decide +kernel
theorem dd_Y_insert_50 : decode bc_Y_insert 50 = .ok (.iastore, 1) := by decide +kernel
theorem dd_Y_insert_51 : decode bc_Y_insert 51 = .ok (.aload_n 0, 1) := by decide +kernel
theorem dd_Y_insert_52 : decode bc_Y_insert 52 = .ok (.getfield 15, 3) := by decide +kernel
theorem dd_Y_insert_55 : decode bc_Y_insert 55 = .ok (.iload_n 1, 1) := by decide +kernel
theorem dd_Y_insert_56 : decode bc_Y_insert 56 = .ok (.iconst 1, 1) := by decide +kernel
theorem dd_Y_insert_57 : decode bc_Y_insert 57 = .ok (.iastore, 1) := by decide +kernel
theorem dd_Y_insert_58 : decode bc_Y_insert 58 = .ok (.aload_n 0, 1) := by decide +kernel
theorem dd_Y_insert_59 : decode bc_Y_insert 59 = .ok (.dup, 1) := by decide +kernel
theorem dd_Y_insert_60 : decode bc_Y_insert 60 = .ok (.getfield 18, 3) := by decide +kernel
theorem dd_Y_insert_63 : decode bc_Y_insert 63 = .ok (.iconst 1, 1) := by decide +kernel
theorem dd_Y_insert_64 : decode bc_Y_insert 64 = .ok (.iadd, 1) := by decide +kernel
theorem dd_Y_insert_65 : decode bc_Y_insert 65 = .ok (.putfield 18, 3) := by decide +kernel
theorem dd_Y_insert_68 : decode bc_Y_insert 68 = .ok (.return_, 1) := by decide +kernel
theorem dd_T_init_0 : decode bc_T_init 0 = .ok (.aload_n 0, 1) := by decide +kernel
theorem dd_T_init_1 : decode bc_T_init 1 = .ok (.invokespecial 1, 3) := by decide +kernel
theorem dd_T_init_4 : decode bc_T_init 4 = .ok (.aload_n 0, 1) := by decide +kernel
theorem dd_T_init_5 : decode bc_T_init 5 = .ok (.new 7, 3) := by decide +kernel
theorem dd_T_init_8 : decode bc_T_init 8 = .ok (.dup, 1) := by decide +kernel
theorem dd_T_init_9 : decode bc_T_init 9 = .ok (.invokespecial 9, 3) := by decide +kernel
theorem dd_T_init_12 : decode bc_T_init 12 = .ok (.putfield 10, 3) := by decide +kernel
theorem dd_T_init_15 : decode bc_T_init 15 = .ok (.aload_n 0, 1) := by decide +kernel
theorem dd_T_init_16 : decode bc_T_init 16 = .ok (.iconst 2, 1) := by decide +kernel
theorem dd_T_init_17 : decode bc_T_init 17 = .ok (.anewarray 7, 3) := by decide +kernel
theorem dd_T_init_20 : decode bc_T_init 20 = .ok (.putfield 16, 3) := by decide +kernel
theorem dd_T_init_23 : decode bc_T_init 23 = .ok (.iconst 0, 1) := by decide +kernel
theorem dd_T_init_24 : decode bc_T_init 24 = .ok (.istore_n 1, 1) := by decide +kernel
theorem dd_T_init_25 : decode bc_T_init 25 = .ok (.iload_n 1, 1) := by decide +kernel
theorem dd_T_init_26 : decode bc_T_init 26 = .ok (.iconst 2, 1) := by decide +kernel
theorem dd_T_init_27 : decode bc_T_init 27 = .ok (.if_icmp .ge 22, 3) := by decide +kernel
theorem dd_T_init_30 : decode bc_T_init 30 = .ok (.aload_n 0, 1) := by decide +kernel
theorem dd_T_init_31 : decode bc_T_init 31 = .ok (.getfield 16, 3) := by decide +kernel
theorem dd_T_init_34 : decode bc_T_init 34 = .ok (.iload_n 1, 1) := by decide +kernel
theorem dd_T_init_35 : decode bc_T_init 35 = .ok (.new 7, 3) := by decide +kernel
theorem dd_T_init_38 : decode bc_T_init 38 = .ok (.dup, 1) := by decide +kernel
theorem dd_T_init_39 : decode bc_T_init 39 = .ok (.invokespecial 9, 3) := by decide +kernel
theorem dd_T_init_42 : decode bc_T_init 42 = .ok (.aastore, 1) := by decide +kernel
theorem dd_T_init_43 : decode bc_T_init 43 = .ok (.iinc 1 1, 3) := by decide +kernel
theorem dd_T_init_46 : decode bc_T_init 46 = .ok (.goto (-21), 3) := by decide +kernel
theorem dd_T_init_49 : decode bc_T_init 49 = .ok (.aload_n 0, 1) := by decide +kernel
theorem dd_T_init_50 : decode bc_T_init 50 = .ok (.iconst 0, 1) := by decide +kernel
theorem dd_T_init_51 : decode bc_T_init 51 = .ok (.putfield 20, 3) := by decide +kernel
theorem dd_T_init_54 : decode bc_T_init 54 = .ok (.aload_n 0, 1) := by decide +kernel
theorem dd_T_init_55 : decode bc_T_init 55 = .ok (.new 24, 3) := by decide +kernel
theorem dd_T_init_58 : decode bc_T_init 58 = .ok (.dup, 1) := by decide +kernel
theorem dd_T_init_59 : decode bc_T_init 59 = .ok (.invokespecial 26, 3) := by decide +kernel
theorem dd_T_init_62 : decode bc_T_init 62 = .ok (.putfield 27, 3) := by decide +kernel
theorem dd_T_init_65 : decode bc_T_init 65 = .ok (.aload_n 0, 1) := by decide +kernel
theorem dd_T_init_66 : decode bc_T_init 66 = .ok (.new 31, 3) := by decide +kernel
theorem dd_T_init_69 : decode bc_T_init 69 = .ok (.dup, 1) := by decide +kernel
theorem dd_T_init_70 : decode bc_T_init 70 = .ok (.invokespecial 33, 3) := by decide +kernel
theorem dd_T_init_73 : decode bc_T_init 73 = .ok (.putfield 34, 3) := by decide +kernel
theorem dd_T_init_76 : decode bc_T_init 76 = .ok (.aload_n 0, 1) := by decide +kernel
theorem dd_T_init_77 : decode bc_T_init 77 = .ok (.new 38, 3) := by decide +kernel
theorem dd_T_init_80 : decode bc_T_init 80 = .ok (.dup, 1) := by decide +kernel
theorem dd_T_init_81 : decode bc_T_init 81 = .ok (.invokespecial 40, 3) := by decide +kernel
theorem dd_T_init_84 : decode bc_T_init 84 = .ok (.putfield 41, 3) := by decide +kernel
theorem dd_T_init_87 : decode bc_T_init 87 = .ok (.return_, 1) := by decide +kernel
theorem dd_T_points_0 : decode bc_T_points 0 = .ok (.iload_n 1, 1) := by decide +kernel
theorem dd_T_points_1 : decode bc_T_points 1 = .ok (.iconst 1, 1) := by decide +kernel
theorem dd_T_points_2 : decode bc_T_points 2 = .ok (.bipush 7, 2) := by decide +kernel
theorem dd_T_points_4 : decode bc_T_points 4 = .ok (.invokestatic 45, 3) := by decide +kernel
theorem dd_T_points_7 : decode bc_T_points 7 = .ok (.ifCond .ne 6, 3) := by decide +kernel
theorem dd_T_points_10 : decode bc_T_points 10 = .ok (.bipush (-2), 2) := by decide +kernel
theorem dd_T_points_12 : decode bc_T_points 12 = .ok (.ireturn, 1) := by decide +kernel
theorem dd_T_points_13 : decode bc_T_points 13 = .ok (.aload_n 0, 1) := by decide +kernel
theorem dd_T_points_14 : decode bc_T_points 14 = .ok (.getfield 10, 3) := by decide +kernel
theorem dd_T_points_17 : decode bc_T_points 17 = .ok (.getfield 49, 3) := by decide +kernel
theorem dd_T_points_20 : decode bc_T_points 20 = .ok (.istore_n 2, 1) := by decide +kernel
theorem dd_T_points_21 : decode bc_T_points 21 = .ok (.aload_n 0, 1) := by decide +kernel
theorem dd_T_points_22 : decode bc_T_points 22 = .ok (.getfield 10, 3) := by decide +kernel
theorem dd_T_points_25 : decode bc_T_points 25 = .ok (.iload_n 1, 1) := by decide +kernel
theorem dd_T_points_26 : decode bc_T_points 26 = .ok (.putfield 49, 3) := by decide +kernel
theorem dd_T_points_29 : decode bc_T_points 29 = .ok (.aload_n 0, 1) := by decide +kernel
theorem dd_T_points_30 : decode bc_T_points 30 = .ok (.getfield 10, 3) := by decide +kernel
theorem dd_T_points_33 : decode bc_T_points 33 = .ok (.getfield 52, 3) := by decide +kernel
theorem dd_T_points_36 : decode bc_T_points 36 = .ok (.invokevirtual 56, 3) := by decide +kernel
theorem dd_T_points_39 : decode bc_T_points 39 = .ok (.aload_n 0, 1) := by decide +kernel
theorem dd_T_points_40 : decode bc_T_points 40 = .ok (.invokevirtual 61, 3) := by decide +kernel
theorem dd_T_points_43 : decode bc_T_points 43 = .ok (.iload_n 2, 1) := by decide +kernel
theorem dd_T_points_44 : decode bc_T_points 44 = .ok (.ireturn, 1) := by decide +kernel
theorem dd_T_beside_0 : decode bc_T_beside 0 = .ok (.iload_n 1, 1) := by decide +kernel
theorem dd_T_beside_1 : decode bc_T_beside 1 = .ok (.iconst 0, 1) := by decide +kernel
theorem dd_T_beside_2 : decode bc_T_beside 2 = .ok (.aload_n 0, 1) := by decide +kernel
theorem dd_T_beside_3 : decode bc_T_beside 3 = .ok (.getfield 10, 3) := by decide +kernel
theorem dd_T_beside_6 : decode bc_T_beside 6 = .ok (.getfield 49, 3) := by decide +kernel
theorem dd_T_beside_9 : decode bc_T_beside 9 = .ok (.invokestatic 45, 3) := by decide +kernel
theorem dd_T_beside_12 : decode bc_T_beside 12 = .ok (.ifCond .eq 17, 3) := by decide +kernel
theorem dd_T_beside_15 : decode bc_T_beside 15 = .ok (.iload_n 2, 1) := by decide +kernel
theorem dd_T_beside_16 : decode bc_T_beside 16 = .ok (.invokestatic 64, 3) := by decide +kernel
theorem dd_T_beside_19 : decode bc_T_beside 19 = .ok (.ifCond .eq 10, 3) := by decide +kernel
theorem dd_T_beside_22 : decode bc_T_beside 22 = .ok (.iload_n 3, 1) := by decide +kernel
