theorem dd_T_beside_23 : decode bc_T_beside 23 = .ok (.invokestatic 64, 3) := by decide +kernel
theorem dd_T_beside_26 : decode bc_T_beside 26 = .ok (.ifCond .ne 6, 3) := by decide +kernel
theorem dd_T_beside_29 : decode bc_T_beside 29 = .ok (.bipush (-2), 2) := by decide +kernel
theorem dd_T_beside_31 : decode bc_T_beside 31 = .ok (.ireturn, 1) := by decide +kernel
theorem dd_T_beside_32 : decode bc_T_beside 32 = .ok (.aload_n 0, 1) := by decide +kernel
theorem dd_T_beside_33 : decode bc_T_beside 33 = .ok (.getfield 10, 3) := by decide +kernel
theorem dd_T_beside_36 : decode bc_T_beside 36 = .ok (.getfield 52, 3) := by decide +kernel
theorem dd_T_beside_39 : decode bc_T_beside 39 = .ok (.invokevirtual 56, 3) := by decide +kernel
theorem dd_T_beside_42 : decode bc_T_beside 42 = .ok (.aload_n 0, 1) := by decide +kernel
theorem dd_T_beside_43 : decode bc_T_beside 43 = .ok (.getfield 10, 3) := by decide +kernel
theorem dd_T_beside_46 : decode bc_T_beside 46 = .ok (.getfield 52, 3) := by decide +kernel
theorem dd_T_beside_49 : decode bc_T_beside 49 = .ok (.iload_n 2, 1) := by decide +kernel
theorem dd_T_beside_50 : decode bc_T_beside 50 = .ok (.iconst 0, 1) := by decide +kernel
theorem dd_T_beside_51 : decode bc_T_beside 51 = .ok (.iload_n 1, 1) := by decide +kernel
theorem dd_T_beside_52 : decode bc_T_beside 52 = .ok (.iconst 1, 1) := by decide +kernel
theorem dd_T_beside_53 : decode bc_T_beside 53 = .ok (.invokevirtual 68, 3) := by decide +kernel
theorem dd_T_beside_56 : decode bc_T_beside 56 = .ok (.aload_n 0, 1) := by decide +kernel
theorem dd_T_beside_57 : decode bc_T_beside 57 = .ok (.getfield 10, 3) := by decide +kernel
theorem dd_T_beside_60 : decode bc_T_beside 60 = .ok (.getfield 52, 3) := by decide +kernel
theorem dd_T_beside_63 : decode bc_T_beside 63 = .ok (.iload_n 3, 1) := by decide +kernel
theorem dd_T_beside_64 : decode bc_T_beside 64 = .ok (.iload_n 1, 1) := by decide +kernel
theorem dd_T_beside_65 : decode bc_T_beside 65 = .ok (.aload_n 0, 1) := by decide +kernel
theorem dd_T_beside_66 : decode bc_T_beside 66 = .ok (.getfield 10, 3) := by decide +kernel
theorem dd_T_beside_69 : decode bc_T_beside 69 = .ok (.getfield 49, 3) := by decide +kernel
theorem dd_T_beside_72 : decode bc_T_beside 72 = .ok (.iload_n 1, 1) := by decide +kernel
theorem dd_T_beside_73 : decode bc_T_beside 73 = .ok (.isub, 1) := by decide +kernel
theorem dd_T_beside_74 : decode bc_T_beside 74 = .ok (.iconst 1, 1) := by decide +kernel
theorem dd_T_beside_75 : decode bc_T_beside 75 = .ok (.invokevirtual 68, 3) := by decide +kernel
theorem dd_T_beside_78 : decode bc_T_beside 78 = .ok (.aload_n 0, 1) := by decide +kernel
theorem dd_T_beside_79 : decode bc_T_beside 79 = .ok (.invokevirtual 61, 3) := by decide +kernel
theorem dd_T_beside_82 : decode bc_T_beside 82 = .ok (.aload_n 0, 1) := by decide +kernel
theorem dd_T_beside_83 : decode bc_T_beside 83 = .ok (.getfield 10, 3) := by decide +kernel
theorem dd_T_beside_86 : decode bc_T_beside 86 = .ok (.getfield 52, 3) := by decide +kernel
theorem dd_T_beside_89 : decode bc_T_beside 89 = .ok (.getfield 72, 3) := by decide +kernel
theorem dd_T_beside_92 : decode bc_T_beside 92 = .ok (.ireturn, 1) := by decide +kernel
theorem dd_T_blocks_0 : decode bc_T_blocks 0 = .ok (.iload_n 1, 1) := by decide +kernel
theorem dd_T_blocks_1 : decode bc_T_blocks 1 = .ok (.iconst 1, 1) := by decide +kernel
theorem dd_T_blocks_2 : decode bc_T_blocks 2 = .ok (.aload_n 0, 1) := by decide +kernel
theorem dd_T_blocks_3 : decode bc_T_blocks 3 = .ok (.getfield 10, 3) := by decide +kernel
theorem dd_T_blocks_6 : decode bc_T_blocks 6 = .ok (.getfield 49, 3) := by decide +kernel
theorem dd_T_blocks_9 : decode bc_T_blocks 9 = .ok (.invokestatic 45, 3) := by decide +kernel
theorem dd_T_blocks_12 : decode bc_T_blocks 12 = .ok (.ifCond .eq 29, 3) := by decide +kernel
theorem dd_T_blocks_15 : decode bc_T_blocks 15 = .ok (.aload_n 0, 1) := by decide +kernel
theorem dd_T_blocks_16 : decode bc_T_blocks 16 = .ok (.getfield 10, 3) := by decide +kernel
theorem dd_T_blocks_19 : decode bc_T_blocks 19 = .ok (.getfield 49, 3) := by decide +kernel
theorem dd_T_blocks_22 : decode bc_T_blocks 22 = .ok (.iload_n 1, 1) := by decide +kernel
theorem dd_T_blocks_23 : decode bc_T_blocks 23 = .ok (.irem, 1) := by decide +kernel
theorem dd_T_blocks_24 : decode bc_T_blocks 24 = .ok (.ifCond .ne 17, 3) := by decide +kernel
theorem dd_T_blocks_27 : decode bc_T_blocks 27 = .ok (.iload_n 2, 1) := by decide +kernel
theorem dd_T_blocks_28 : decode bc_T_blocks 28 = .ok (.invokestatic 64, 3) := by decide +kernel
theorem dd_T_blocks_31 : decode bc_T_blocks 31 = .ok (.ifCond .eq 10, 3) := by decide +kernel
theorem dd_T_blocks_34 : decode bc_T_blocks 34 = .ok (.iload_n 3, 1) := by decide +kernel
theorem dd_T_blocks_35 : decode bc_T_blocks 35 = .ok (.invokestatic 64, 3) := by decide +kernel
theorem dd_T_blocks_38 : decode bc_T_blocks 38 = .ok (.ifCond .ne 6, 3) := by decide +kernel
theorem dd_T_blocks_41 : decode bc_T_blocks 41 = .ok (.bipush (-2), 2) := by decide +kernel
theorem dd_T_blocks_43 : decode bc_T_blocks 43 = .ok (.ireturn, 1) := by decide +kernel
theorem dd_T_blocks_44 : decode bc_T_blocks 44 = .ok (.aload_n 0, 1) := by decide +kernel
theorem dd_T_blocks_45 : decode bc_T_blocks 45 = .ok (.getfield 10, 3) := by decide +kernel
theorem dd_T_blocks_48 : decode bc_T_blocks 48 = .ok (.getfield 49, 3) := by decide +kernel
theorem dd_T_blocks_51 : decode bc_T_blocks 51 = .ok (.iload_n 1, 1) := by decide +kernel
theorem dd_T_blocks_52 : decode bc_T_blocks 52 = .ok (.idiv, 1) := by decide +kernel
theorem dd_T_blocks_53 : decode bc_T_blocks 53 = .ok (.istore 4, 2) := by decide +kernel
theorem dd_T_blocks_55 : decode bc_T_blocks 55 = .ok (.aload_n 0, 1) := by decide +kernel
theorem dd_T_blocks_56 : decode bc_T_blocks 56 = .ok (.getfield 10, 3) := by decide +kernel
theorem dd_T_blocks_59 : decode bc_T_blocks 59 = .ok (.getfield 52, 3) := by decide +kernel
theorem dd_T_blocks_62 : decode bc_T_blocks 62 = .ok (.invokevirtual 56, 3) := by decide +kernel
theorem dd_T_blocks_65 : decode bc_T_blocks 65 = .ok (.iconst 0, 1) := by decide +kernel
theorem dd_T_blocks_66 : decode bc_T_blocks 66 = .ok (.istore 5, 2) := by decide +kernel
theorem dd_T_blocks_68 : decode bc_T_blocks 68 = .ok (.iload 5, 2) := by decide +kernel
theorem dd_T_blocks_70 : decode bc_T_blocks 70 = .ok (.iload 4, 2) := by decide +kernel
theorem dd_T_blocks_72 : decode bc_T_blocks 72 = .ok (.if_icmp .ge 26, 3) := by decide +kernel
theorem dd_T_blocks_75 : decode bc_T_blocks 75 = .ok (.aload_n 0, 1) := by decide +kernel
theorem dd_T_blocks_76 : decode bc_T_blocks 76 = .ok (.getfield 10, 3) := by decide +kernel
theorem dd_T_blocks_79 : decode bc_T_blocks 79 = .ok (.getfield 52, 3) := by decide +kernel
theorem dd_T_blocks_82 : decode bc_T_blocks 82 = .ok (.iload_n 2, 1) := by decide +kernel
theorem dd_T_blocks_83 : decode bc_T_blocks 83 = .ok (.iload 5, 2) := by decide +kernel
theorem dd_T_blocks_85 : decode bc_T_blocks 85 = .ok (.iload_n 1, 1) := by decide +kernel
theorem dd_T_blocks_86 : decode bc_T_blocks 86 = .ok (.imul, 1) := by decide +kernel
theorem dd_T_blocks_87 : decode bc_T_blocks 87 = .ok (.iload_n 1, 1) := by decide +kernel
theorem dd_T_blocks_88 : decode bc_T_blocks 88 = .ok (.iconst 1, 1) := by decide +kernel
theorem dd_T_blocks_89 : decode bc_T_blocks 89 = .ok (.invokevirtual 68, 3) := by decide +kernel
theorem dd_T_blocks_92 : decode bc_T_blocks 92 = .ok (.iinc 5 1, 3) := by decide +kernel
theorem dd_T_blocks_95 : decode bc_T_blocks 95 = .ok (.goto (-27), 3) := by decide +kernel
theorem dd_T_blocks_98 : decode bc_T_blocks 98 = .ok (.aload_n 0, 1) := by decide +kernel
theorem dd_T_blocks_99 : decode bc_T_blocks 99 = .ok (.getfield 10, 3) := by decide +kernel
theorem dd_T_blocks_102 : decode bc_T_blocks 102 = .ok (.getfield 52, 3) := by decide +kernel
theorem dd_T_blocks_105 : decode bc_T_blocks 105 = .ok (.iload_n 3, 1) := by decide +kernel
theorem dd_T_blocks_106 : decode bc_T_blocks 106 = .ok (.iconst 0, 1) := by decide +kernel
theorem dd_T_blocks_107 : decode bc_T_blocks 107 = .ok (.iload 4, 2) := by decide +kernel
theorem dd_T_blocks_109 : decode bc_T_blocks 109 = .ok (.iload_n 1, 1) := by decide +kernel
theorem dd_T_blocks_110 : decode bc_T_blocks 110 = .ok (.invokevirtual 68, 3) := by decide +kernel
theorem dd_T_blocks_113 : decode bc_T_blocks 113 = .ok (.aload_n 0, 1) := by decide +kernel
theorem dd_T_blocks_114 : decode bc_T_blocks 114 = .ok (.invokevirtual 61, 3) := by decide +kernel
theorem dd_T_blocks_117 : decode bc_T_blocks 117 = .ok (.aload_n 0, 1) := by decide +kernel
theorem dd_T_blocks_118 : decode bc_T_blocks 118 = .ok (.getfield 10, 3) := by decide +kernel
theorem dd_T_blocks_121 : decode bc_T_blocks 121 = .ok (.getfield 52, 3) := by decide +kernel
theorem dd_T_blocks_124 : decode bc_T_blocks 124 = .ok (.getfield 72, 3) := by decide +kernel
theorem dd_T_blocks_127 : decode bc_T_blocks 127 = .ok (.ireturn, 1) := by decide +kernel
theorem dd_T_join_0 : decode bc_T_join 0 = .ok (.aload_n 0, 1) := by decide +kernel
theorem dd_T_join_1 : decode bc_T_join 1 = .ok (.getfield 27, 3) := by decide +kernel
theorem dd_T_join_4 : decode bc_T_join 4 = .ok (.aload_n 0, 1) := by decide +kernel
theorem dd_T_join_5 : decode bc_T_join 5 = .ok (.getfield 10, 3) := by decide +kernel
theorem dd_T_join_8 : decode bc_T_join 8 = .ok (.getfield 49, 3) := by decide +kernel
theorem dd_T_join_11 : decode bc_T_join 11 = .ok (.invokevirtual 75, 3) := by decide +kernel
theorem dd_T_join_14 : decode bc_T_join 14 = .ok (.istore_n 1, 1) := by decide +kernel
theorem dd_T_join_15 : decode bc_T_join 15 = .ok (.iload_n 1, 1) := by decide +kernel
theorem dd_T_join_16 : decode bc_T_join 16 = .ok (.ifCond .ge 6, 3) := by decide +kernel
theorem dd_T_join_19 : decode bc_T_join 19 = .ok (.bipush (-7), 2) := by decide +kernel
theorem dd_T_join_21 : decode bc_T_join 21 = .ok (.ireturn, 1) := by decide +kernel
theorem dd_T_join_22 : decode bc_T_join 22 = .ok (.aload_n 0, 1) := by decide +kernel
theorem dd_T_join_23 : decode bc_T_join 23 = .ok (.getfield 27, 3) := by decide +kernel
theorem dd_T_join_26 : decode bc_T_join 26 = .ok (.iconst 0, 1) := by decide +kernel
theorem dd_T_join_27 : decode bc_T_join 27 = .ok (.putfield 79, 3) := by decide +kernel
theorem dd_T_join_30 : decode bc_T_join 30 = .ok (.aload_n 0, 1) := by decide +kernel
theorem dd_T_join_31 : decode bc_T_join 31 = .ok (.getfield 10, 3) := by decide +kernel
theorem dd_T_join_34 : decode bc_T_join 34 = .ok (.getfield 52, 3) := by decide +kernel
theorem dd_T_join_37 : decode bc_T_join 37 = .ok (.iload_n 1, 1) := by decide +kernel
theorem dd_T_join_38 : decode bc_T_join 38 = .ok (.invokevirtual 82, 3) := by decide +kernel
theorem dd_T_join_41 : decode bc_T_join 41 = .ok (.ifCond .ne 18, 3) := by decide +kernel
theorem dd_T_join_44 : decode bc_T_join 44 = .ok (.aload_n 0, 1) := by decide +kernel
theorem dd_T_join_45 : decode bc_T_join 45 = .ok (.getfield 10, 3) := by decide +kernel
theorem dd_T_join_48 : decode bc_T_join 48 = .ok (.getfield 52, 3) := by decide +kernel
theorem dd_T_join_51 : decode bc_T_join 51 = .ok (.iload_n 1, 1) := by decide +kernel
theorem dd_T_join_52 : decode bc_T_join 52 = .ok (.invokevirtual 85, 3) := by decide +kernel
theorem dd_T_join_55 : decode bc_T_join 55 = .ok (.aload_n 0, 1) := by decide +kernel
theorem dd_T_join_56 : decode bc_T_join 56 = .ok (.invokevirtual 61, 3) := by decide +kernel
theorem dd_T_join_59 : decode bc_T_join 59 = .ok (.aload_n 0, 1) := by decide +kernel
theorem dd_T_join_60 : decode bc_T_join 60 = .ok (.getfield 10, 3) := by decide +kernel
theorem dd_T_join_63 : decode bc_T_join 63 = .ok (.getfield 52, 3) := by decide +kernel
theorem dd_T_join_66 : decode bc_T_join 66 = .ok (.getfield 72, 3) := by decide +kernel
theorem dd_T_join_69 : decode bc_T_join 69 = .ok (.ireturn, 1) := by decide +kernel
theorem dd_T_say_0 : decode bc_T_say 0 = .ok (.iload_n 1, 1) := by decide +kernel
theorem dd_T_say_1 : decode bc_T_say 1 = .ok (.bipush 33, 2) := by decide +kernel
theorem dd_T_say_3 : decode bc_T_say 3 = .ok (.bipush 126, 2) := by decide +kernel
theorem dd_T_say_5 : decode bc_T_say 5 = .ok (.invokestatic 45, 3) := by decide +kernel
theorem dd_T_say_8 : decode bc_T_say 8 = .ok (.ifCond .ne 6, 3) := by decide +kernel
theorem dd_T_say_11 : decode bc_T_say 11 = .ok (.bipush (-2), 2) := by decide +kernel
theorem dd_T_say_13 : decode bc_T_say 13 = .ok (.ireturn, 1) := by decide +kernel
theorem dd_T_say_14 : decode bc_T_say 14 = .ok (.aload_n 0, 1) := by decide +kernel
theorem dd_T_say_15 : decode bc_T_say 15 = .ok (.getfield 27, 3) := by decide +kernel
theorem dd_T_say_18 : decode bc_T_say 18 = .ok (.getfield 79, 3) := by decide +kernel
theorem dd_T_say_21 : decode bc_T_say 21 = .ok (.bipush 7, 2) := by decide +kernel
theorem dd_T_say_23 : decode bc_T_say 23 = .ok (.if_icmp .lt 6, 3) := by decide +kernel
theorem dd_T_say_26 : decode bc_T_say 26 = .ok (.bipush (-4), 2) := by decide +kernel
theorem dd_T_say_28 : decode bc_T_say 28 = .ok (.ireturn, 1) := by decide +kernel
theorem dd_T_say_29 : decode bc_T_say 29 = .ok (.aload_n 0, 1) := by decide +kernel
theorem dd_T_say_30 : decode bc_T_say 30 = .ok (.getfield 27, 3) := by decide +kernel
theorem dd_T_say_33 : decode bc_T_say 33 = .ok (.getfield 89, 3) := by decide +kernel
theorem dd_T_say_36 : decode bc_T_say 36 = .ok (.aload_n 0, 1) := by decide +kernel
theorem dd_T_say_37 : decode bc_T_say 37 = .ok (.getfield 27, 3) := by decide +kernel
theorem dd_T_say_40 : decode bc_T_say 40 = .ok (.getfield 79, 3) := by decide +kernel
theorem dd_T_say_43 : decode bc_T_say 43 = .ok (.iload_n 1, 1) := by decide +kernel
theorem dd_T_say_44 : decode bc_T_say 44 = .ok (.iastore, 1) := by decide +kernel
theorem dd_T_say_45 : decode bc_T_say 45 = .ok (.aload_n 0, 1) := by decide +kernel
theorem dd_T_say_46 : decode bc_T_say 46 = .ok (.getfield 27, 3) := by decide +kernel
theorem dd_T_say_49 : decode bc_T_say 49 = .ok (.dup, 1) := by decide +kernel
theorem dd_T_say_50 : decode bc_T_say 50 = .ok (.getfield 79, 3) := by decide +kernel
theorem dd_T_say_53 : decode bc_T_say 53 = .ok (.iconst 1, 1) := by decide +kernel
theorem dd_T_say_54 : decode bc_T_say 54 = .ok (.iadd, 1) := by decide +kernel
theorem dd_T_say_55 : decode bc_T_say 55 = .ok (.putfield 79, 3) := by decide +kernel
theorem dd_T_say_58 : decode bc_T_say 58 = .ok (.aload_n 0, 1) := by decide +kernel
theorem dd_T_say_59 : decode bc_T_say 59 = .ok (.getfield 27, 3) := by decide +kernel
theorem dd_T_say_62 : decode bc_T_say 62 = .ok (.getfield 79, 3) := by decide +kernel
theorem dd_T_say_65 : decode bc_T_say 65 = .ok (.ireturn, 1) := by decide +kernel
theorem dd_T_wipe_0 : decode bc_T_wipe 0 = .ok (.aload_n 0, 1) := by decide +kernel
theorem dd_T_wipe_1 : decode bc_T_wipe 1 = .ok (.getfield 27, 3) := by decide +kernel
theorem dd_T_wipe_4 : decode bc_T_wipe 4 = .ok (.getfield 79, 3) := by decide +kernel
theorem dd_T_wipe_7 : decode bc_T_wipe 7 = .ok (.istore_n 1, 1) := by decide +kernel
theorem dd_T_wipe_8 : decode bc_T_wipe 8 = .ok (.aload_n 0, 1) := by decide +kernel
theorem dd_T_wipe_9 : decode bc_T_wipe 9 = .ok (.getfield 27, 3) := by decide +kernel
theorem dd_T_wipe_12 : decode bc_T_wipe 12 = .ok (.iconst 0, 1) := by decide +kernel
theorem dd_T_wipe_13 : decode bc_T_wipe 13 = .ok (.putfield 79, 3) := by decide +kernel
theorem dd_T_wipe_16 : decode bc_T_wipe 16 = .ok (.iload_n 1, 1) := by decide +kernel
theorem dd_T_wipe_17 : decode bc_T_wipe 17 = .ok (.ireturn, 1) := by decide +kernel
theorem dd_T_turn_0 : decode bc_T_turn 0 = .ok (.iload_n 1, 1) := by decide +kernel
theorem dd_T_turn_1 : decode bc_T_turn 1 = .ok (.iconst 0, 1) := by decide +kernel
theorem dd_T_turn_2 : decode bc_T_turn 2 = .ok (.iconst 2, 1) := by decide +kernel
theorem dd_T_turn_3 : decode bc_T_turn 3 = .ok (.invokestatic 45, 3) := by decide +kernel
theorem dd_T_turn_6 : decode bc_T_turn 6 = .ok (.ifCond .ne 6, 3) := by decide +kernel
theorem dd_T_turn_9 : decode bc_T_turn 9 = .ok (.bipush (-2), 2) := by decide +kernel
theorem dd_T_turn_11 : decode bc_T_turn 11 = .ok (.ireturn, 1) := by decide +kernel
theorem dd_T_turn_12 : decode bc_T_turn 12 = .ok (.aload_n 0, 1) := by decide +kernel
theorem dd_T_turn_13 : decode bc_T_turn 13 = .ok (.getfield 27, 3) := by decide +kernel
theorem dd_T_turn_16 : decode bc_T_turn 16 = .ok (.aload_n 0, 1) := by decide +kernel
theorem dd_T_turn_17 : decode bc_T_turn 17 = .ok (.getfield 10, 3) := by decide +kernel
theorem dd_T_turn_20 : decode bc_T_turn 20 = .ok (.getfield 49, 3) := by decide +kernel
theorem dd_T_turn_23 : decode bc_T_turn 23 = .ok (.invokevirtual 75, 3) := by decide +kernel
theorem dd_T_turn_26 : decode bc_T_turn 26 = .ok (.istore_n 2, 1) := by decide +kernel
theorem dd_T_turn_27 : decode bc_T_turn 27 = .ok (.iload_n 2, 1) := by decide +kernel
theorem dd_T_turn_28 : decode bc_T_turn 28 = .ok (.ifCond .ge 6, 3) := by decide +kernel
theorem dd_T_turn_31 : decode bc_T_turn 31 = .ok (.bipush (-7), 2) := by decide +kernel
theorem dd_T_turn_33 : decode bc_T_turn 33 = .ok (.ireturn, 1) := by decide +kernel
theorem dd_T_turn_34 : decode bc_T_turn 34 = .ok (.iload_n 1, 1) := by decide +kernel
theorem dd_T_turn_35 : decode bc_T_turn 35 = .ok (.ifCond .ne 23, 3) := by decide +kernel
theorem dd_T_turn_38 : decode bc_T_turn 38 = .ok (.aload_n 0, 1) := by decide +kernel
theorem dd_T_turn_39 : decode bc_T_turn 39 = .ok (.getfield 10, 3) := by decide +kernel
theorem dd_T_turn_42 : decode bc_T_turn 42 = .ok (.getfield 52, 3) := by decide +kernel
theorem dd_T_turn_45 : decode bc_T_turn 45 = .ok (.iload_n 2, 1) := by decide +kernel
theorem dd_T_turn_46 : decode bc_T_turn 46 = .ok (.invokevirtual 82, 3) := by decide +kernel
theorem dd_T_turn_49 : decode bc_T_turn 49 = .ok (.ifCond .eq 7, 3) := by decide +kernel
theorem dd_T_turn_52 : decode bc_T_turn 52 = .ok (.iconst 1, 1) := by decide +kernel
theorem dd_T_turn_53 : decode bc_T_turn 53 = .ok (.goto 4, 3) := by decide +kernel
theorem dd_T_turn_56 : decode bc_T_turn 56 = .ok (.iconst 0, 1) := by decide +kernel
theorem dd_T_turn_57 : decode bc_T_turn 57 = .ok (.ireturn, 1) := by decide +kernel
theorem dd_T_turn_58 : decode bc_T_turn 58 = .ok (.iload_n 1, 1) := by decide +kernel
theorem dd_T_turn_59 : decode bc_T_turn 59 = .ok (.iconst 1, 1) := by decide +kernel
theorem dd_T_turn_60 : decode bc_T_turn 60 = .ok (.if_icmp .ne 17, 3) := by decide +kernel
theorem dd_T_turn_63 : decode bc_T_turn 63 = .ok (.iload_n 2, 1) := by decide +kernel
theorem dd_T_turn_64 : decode bc_T_turn 64 = .ok (.aload_n 0, 1) := by decide +kernel
theorem dd_T_turn_65 : decode bc_T_turn 65 = .ok (.getfield 10, 3) := by decide +kernel
theorem dd_T_turn_68 : decode bc_T_turn 68 = .ok (.getfield 49, 3) := by decide +kernel
theorem dd_T_turn_71 : decode bc_T_turn 71 = .ok (.invokestatic 93, 3) := by decide +kernel
theorem dd_T_turn_74 : decode bc_T_turn 74 = .ok (.goto 7, 3) := by decide +kernel
theorem dd_T_turn_77 : decode bc_T_turn 77 = .ok (.iload_n 2, 1) := by decide +kernel
theorem dd_T_turn_78 : decode bc_T_turn 78 = .ok (.invokestatic 99, 3) := by decide +kernel
theorem dd_T_turn_81 : decode bc_T_turn 81 = .ok (.ireturn, 1) := by decide +kernel
theorem dd_T_type_0 : decode bc_T_type 0 = .ok (.iload_n 1, 1) := by decide +kernel
theorem dd_T_type_1 : decode bc_T_type 1 = .ok (.iconst (-1), 1) := by decide +kernel
theorem dd_T_type_2 : decode bc_T_type 2 = .ok (.if_icmp .lt 12, 3) := by decide +kernel
theorem dd_T_type_5 : decode bc_T_type 5 = .ok (.iload_n 2, 1) := by decide +kernel
theorem dd_T_type_6 : decode bc_T_type 6 = .ok (.iconst 0, 1) := by decide +kernel
theorem dd_T_type_7 : decode bc_T_type 7 = .ok (.iconst 1, 1) := by decide +kernel
theorem dd_T_type_8 : decode bc_T_type 8 = .ok (.invokestatic 45, 3) := by decide +kernel
theorem dd_T_type_11 : decode bc_T_type 11 = .ok (.ifCond .ne 6, 3) := by decide +kernel
theorem dd_T_type_14 : decode bc_T_type 14 = .ok (.bipush (-2), 2) := by decide +kernel
theorem dd_T_type_16 : decode bc_T_type 16 = .ok (.ireturn, 1) := by decide +kernel
theorem dd_T_type_17 : decode bc_T_type 17 = .ok (.aload_n 0, 1) := by decide +kernel
theorem dd_T_type_18 : decode bc_T_type 18 = .ok (.getfield 34, 3) := by decide +kernel
theorem dd_T_type_21 : decode bc_T_type 21 = .ok (.aload_n 0, 1) := by decide +kernel
theorem dd_T_type_22 : decode bc_T_type 22 = .ok (.getfield 10, 3) := by decide +kernel
theorem dd_T_type_25 : decode bc_T_type 25 = .ok (.invokevirtual 102, 3) := by decide +kernel
theorem dd_T_type_28 : decode bc_T_type 28 = .ok (.iload_n 1, 1) := by decide +kernel
theorem dd_T_type_29 : decode bc_T_type 29 = .ok (.iconst (-1), 1) := by decide +kernel
theorem dd_T_type_30 : decode bc_T_type 30 = .ok (.if_icmp .ne 11, 3) := by decide +kernel
theorem dd_T_type_33 : decode bc_T_type 33 = .ok (.aload_n 0, 1) := by decide +kernel
theorem dd_T_type_34 : decode bc_T_type 34 = .ok (.getfield 34, 3) := by decide +kernel
theorem dd_T_type_37 : decode bc_T_type 37 = .ok (.getfield 106, 3) := by decide +kernel
theorem dd_T_type_40 : decode bc_T_type 40 = .ok (.ireturn, 1) := by decide +kernel
theorem dd_T_type_41 : decode bc_T_type 41 = .ok (.iload_n 1, 1) := by decide +kernel
theorem dd_T_type_42 : decode bc_T_type 42 = .ok (.aload_n 0, 1) := by decide +kernel
theorem dd_T_type_43 : decode bc_T_type 43 = .ok (.getfield 34, 3) := by decide +kernel
theorem dd_T_type_46 : decode bc_T_type 46 = .ok (.getfield 106, 3) := by decide +kernel
theorem dd_T_type_49 : decode bc_T_type 49 = .ok (.if_icmp .lt 6, 3) := by decide +kernel
theorem dd_T_type_52 : decode bc_T_type 52 = .ok (.bipush (-6), 2) := by decide +kernel
theorem dd_T_type_54 : decode bc_T_type 54 = .ok (.ireturn, 1) := by decide +kernel
theorem dd_T_type_55 : decode bc_T_type 55 = .ok (.iload_n 2, 1) := by decide +kernel
theorem dd_T_type_56 : decode bc_T_type 56 = .ok (.ifCond .ne 15, 3) := by decide +kernel
theorem dd_T_type_59 : decode bc_T_type 59 = .ok (.aload_n 0, 1) := by decide +kernel
theorem dd_T_type_60 : decode bc_T_type 60 = .ok (.getfield 34, 3) := by decide +kernel
theorem dd_T_type_63 : decode bc_T_type 63 = .ok (.getfield 109, 3) := by decide +kernel
theorem dd_T_type_66 : decode bc_T_type 66 = .ok (.iload_n 1, 1) := by decide +kernel
theorem dd_T_type_67 : decode bc_T_type 67 = .ok (.iaload, 1) := by decide +kernel
theorem dd_T_type_68 : decode bc_T_type 68 = .ok (.goto 12, 3) := by decide +kernel
theorem dd_T_type_71 : decode bc_T_type 71 = .ok (.aload_n 0, 1) := by decide +kernel
theorem dd_T_type_72 : decode bc_T_type 72 = .ok (.getfield 34, 3) := by decide +kernel
theorem dd_T_type_75 : decode bc_T_type 75 = .ok (.getfield 112, 3) := by decide +kernel
theorem dd_T_type_78 : decode bc_T_type 78 = .ok (.iload_n 1, 1) := by decide +kernel
theorem dd_T_type_79 : decode bc_T_type 79 = .ok (.iaload, 1) := by decide +kernel
theorem dd_T_type_80 : decode bc_T_type 80 = .ok (.ireturn, 1) := by decide +kernel
theorem dd_T_orbit_0 : decode bc_T_orbit 0 = .ok (.iload_n 1, 1) := by decide +kernel
theorem dd_T_orbit_1 : decode bc_T_orbit 1 = .ok (.iconst 0, 1) := by decide +kernel
theorem dd_T_orbit_2 : decode bc_T_orbit 2 = .ok (.aload_n 0, 1) := by decide +kernel
theorem dd_T_orbit_3 : decode bc_T_orbit 3 = .ok (.getfield 10, 3) := by decide +kernel
theorem dd_T_orbit_6 : decode bc_T_orbit 6 = .ok (.getfield 49, 3) := by decide +kernel
theorem dd_T_orbit_9 : decode bc_T_orbit 9 = .ok (.iconst 1, 1) := by decide +kernel
theorem dd_T_orbit_10 : decode bc_T_orbit 10 = .ok (.isub, 1) := by decide +kernel
theorem dd_T_orbit_11 : decode bc_T_orbit 11 = .ok (.invokestatic 45, 3) := by decide +kernel
theorem dd_T_orbit_14 : decode bc_T_orbit 14 = .ok (.ifCond .ne 5, 3) := by decide +kernel
theorem dd_T_orbit_17 : decode bc_T_orbit 17 = .ok (.iconst (-1), 1) := by decide +kernel
theorem dd_T_orbit_18 : decode bc_T_orbit 18 = .ok (.ireturn, 1) := by decide +kernel
theorem dd_T_orbit_19 : decode bc_T_orbit 19 = .ok (.iload_n 2, 1) := by decide +kernel
theorem dd_T_orbit_20 : decode bc_T_orbit 20 = .ok (.iconst 0, 1) := by decide +kernel
theorem dd_T_orbit_21 : decode bc_T_orbit 21 = .ok (.iconst 1, 1) := by decide +kernel
theorem dd_T_orbit_22 : decode bc_T_orbit 22 = .ok (.invokestatic 45, 3) := by decide +kernel
theorem dd_T_orbit_25 : decode bc_T_orbit 25 = .ok (.ifCond .ne 6, 3) := by decide +kernel
theorem dd_T_orbit_28 : decode bc_T_orbit 28 = .ok (.bipush (-2), 2) := by decide +kernel
theorem dd_T_orbit_30 : decode bc_T_orbit 30 = .ok (.ireturn, 1) := by decide +kernel
theorem dd_T_orbit_31 : decode bc_T_orbit 31 = .ok (.iload_n 2, 1) := by decide +kernel
theorem dd_T_orbit_32 : decode bc_T_orbit 32 = .ok (.ifCond .ne 17, 3) := by decide +kernel
theorem dd_T_orbit_35 : decode bc_T_orbit 35 = .ok (.aload_n 0, 1) := by decide +kernel
theorem dd_T_orbit_36 : decode bc_T_orbit 36 = .ok (.getfield 10, 3) := by decide +kernel
theorem dd_T_orbit_39 : decode bc_T_orbit 39 = .ok (.getfield 52, 3) := by decide +kernel
theorem dd_T_orbit_42 : decode bc_T_orbit 42 = .ok (.iload_n 1, 1) := by decide +kernel
theorem dd_T_orbit_43 : decode bc_T_orbit 43 = .ok (.invokevirtual 115, 3) := by decide +kernel
theorem dd_T_orbit_46 : decode bc_T_orbit 46 = .ok (.goto 14, 3) := by decide +kernel
theorem dd_T_orbit_49 : decode bc_T_orbit 49 = .ok (.aload_n 0, 1) := by decide +kernel
theorem dd_T_orbit_50 : decode bc_T_orbit 50 = .ok (.getfield 10, 3) := by decide +kernel
theorem dd_T_orbit_53 : decode bc_T_orbit 53 = .ok (.getfield 52, 3) := by decide +kernel
theorem dd_T_orbit_56 : decode bc_T_orbit 56 = .ok (.iload_n 1, 1) := by decide +kernel
theorem dd_T_orbit_57 : decode bc_T_orbit 57 = .ok (.invokevirtual 118, 3) := by decide +kernel
theorem dd_T_orbit_60 : decode bc_T_orbit 60 = .ok (.ireturn, 1) := by decide +kernel
theorem dd_T_sorts_0 : decode bc_T_sorts 0 = .ok (.iload_n 1, 1) := by decide +kernel
theorem dd_T_sorts_1 : decode bc_T_sorts 1 = .ok (.iconst 1, 1) := by decide +kernel
theorem dd_T_sorts_2 : decode bc_T_sorts 2 = .ok (.iconst 4, 1) := by decide +kernel
theorem dd_T_sorts_3 : decode bc_T_sorts 3 = .ok (.invokestatic 45, 3) := by decide +kernel
theorem dd_T_sorts_6 : decode bc_T_sorts 6 = .ok (.ifCond .ne 6, 3) := by decide +kernel
theorem dd_T_sorts_9 : decode bc_T_sorts 9 = .ok (.bipush (-2), 2) := by decide +kernel
theorem dd_T_sorts_11 : decode bc_T_sorts 11 = .ok (.ireturn, 1) := by decide +kernel
theorem dd_T_sorts_12 : decode bc_T_sorts 12 = .ok (.aload_n 0, 1) := by decide +kernel
theorem dd_T_sorts_13 : decode bc_T_sorts 13 = .ok (.getfield 10, 3) := by decide +kernel
theorem dd_T_sorts_16 : decode bc_T_sorts 16 = .ok (.getfield 121, 3) := by decide +kernel
theorem dd_T_sorts_19 : decode bc_T_sorts 19 = .ok (.istore_n 2, 1) := by decide +kernel
theorem dd_T_sorts_20 : decode bc_T_sorts 20 = .ok (.aload_n 0, 1) := by decide +kernel
theorem dd_T_sorts_21 : decode bc_T_sorts 21 = .ok (.getfield 10, 3) := by decide +kernel
theorem dd_T_sorts_24 : decode bc_T_sorts 24 = .ok (.iload_n 1, 1) := by decide +kernel
theorem dd_T_sorts_25 : decode bc_T_sorts 25 = .ok (.putfield 121, 3) := by decide +kernel
theorem dd_T_sorts_28 : decode bc_T_sorts 28 = .ok (.aload_n 0, 1) := by decide +kernel
theorem dd_T_sorts_29 : decode bc_T_sorts 29 = .ok (.getfield 41, 3) := by decide +kernel
theorem dd_T_sorts_32 : decode bc_T_sorts 32 = .ok (.iconst 0, 1) := by decide +kernel
theorem dd_T_sorts_33 : decode bc_T_sorts 33 = .ok (.putfield 124, 3) := by decide +kernel
theorem dd_T_sorts_36 : decode bc_T_sorts 36 = .ok (.iload_n 2, 1) := by decide +kernel
theorem dd_T_sorts_37 : decode bc_T_sorts 37 = .ok (.ireturn, 1) := by decide +kernel
theorem dd_T_weight_0 : decode bc_T_weight 0 = .ok (.iload_n 1, 1) := by decide +kernel
theorem dd_T_weight_1 : decode bc_T_weight 1 = .ok (.iconst 0, 1) := by decide +kernel
theorem dd_T_weight_2 : decode bc_T_weight 2 = .ok (.iconst 3, 1) := by decide +kernel
theorem dd_T_weight_3 : decode bc_T_weight 3 = .ok (.invokestatic 45, 3) := by decide +kernel
theorem dd_T_weight_6 : decode bc_T_weight 6 = .ok (.ifCond .ne 5, 3) := by decide +kernel
theorem dd_T_weight_9 : decode bc_T_weight 9 = .ok (.iconst (-1), 1) := by decide +kernel
theorem dd_T_weight_10 : decode bc_T_weight 10 = .ok (.ireturn, 1) := by decide +kernel
theorem dd_T_weight_11 : decode bc_T_weight 11 = .ok (.iload_n 2, 1) := by decide +kernel
theorem dd_T_weight_12 : decode bc_T_weight 12 = .ok (.iconst 0, 1) := by decide +kernel
theorem dd_T_weight_13 : decode bc_T_weight 13 = .ok (.bipush 9, 2) := by decide +kernel
theorem dd_T_weight_15 : decode bc_T_weight 15 = .ok (.invokestatic 45, 3) := by decide +kernel
theorem dd_T_weight_18 : decode bc_T_weight 18 = .ok (.ifCond .ne 6, 3) := by decide +kernel
theorem dd_T_weight_21 : decode bc_T_weight 21 = .ok (.bipush (-2), 2) := by decide +kernel
theorem dd_T_weight_23 : decode bc_T_weight 23 = .ok (.ireturn, 1) := by decide +kernel
theorem dd_T_weight_24 : decode bc_T_weight 24 = .ok (.aload_n 0, 1) := by decide +kernel
theorem dd_T_weight_25 : decode bc_T_weight 25 = .ok (.getfield 10, 3) := by decide +kernel
theorem dd_T_weight_28 : decode bc_T_weight 28 = .ok (.getfield 128, 3) := by decide +kernel
theorem dd_T_weight_31 : decode bc_T_weight 31 = .ok (.iload_n 1, 1) := by decide +kernel
theorem dd_T_weight_32 : decode bc_T_weight 32 = .ok (.iaload, 1) := by decide +kernel
theorem dd_T_weight_33 : decode bc_T_weight 33 = .ok (.istore_n 3, 1) := by decide +kernel
theorem dd_T_weight_34 : decode bc_T_weight 34 = .ok (.aload_n 0, 1) := by decide +kernel
theorem dd_T_weight_35 : decode bc_T_weight 35 = .ok (.getfield 10, 3) := by decide +kernel
theorem dd_T_weight_38 : decode bc_T_weight 38 = .ok (.getfield 128, 3) := by decide +kernel
theorem dd_T_weight_41 : decode bc_T_weight 41 = .ok (.iload_n 1, 1) := by decide +kernel
theorem dd_T_weight_42 : decode bc_T_weight 42 = .ok (.iload_n 2, 1) := by decide +kernel
theorem dd_T_weight_43 : decode bc_T_weight 43 = .ok (.iastore, 1) := by decide +kernel
theorem dd_T_weight_44 : decode bc_T_weight 44 = .ok (.iload_n 3, 1) := by decide +kernel
theorem dd_T_weight_45 : decode bc_T_weight 45 = .ok (.ireturn, 1) := by decide +kernel
theorem dd_T_patterns_0 : decode bc_T_patterns 0 = .ok (.iload_n 1, 1) := by decide +kernel
theorem dd_T_patterns_1 : decode bc_T_patterns 1 = .ok (.iconst (-1), 1) := by decide +kernel
theorem dd_T_patterns_2 : decode bc_T_patterns 2 = .ok (.bipush 63, 2) := by decide +kernel
theorem dd_T_patterns_4 : decode bc_T_patterns 4 = .ok (.invokestatic 45, 3) := by decide +kernel
theorem dd_T_patterns_7 : decode bc_T_patterns 7 = .ok (.ifCond .ne 6, 3) := by decide +kernel
theorem dd_T_patterns_10 : decode bc_T_patterns 10 = .ok (.bipush (-2), 2) := by decide +kernel
theorem dd_T_patterns_12 : decode bc_T_patterns 12 = .ok (.ireturn, 1) := by decide +kernel
theorem dd_T_patterns_13 : decode bc_T_patterns 13 = .ok (.aload_n 0, 1) := by decide +kernel
theorem dd_T_patterns_14 : decode bc_T_patterns 14 = .ok (.getfield 41, 3) := by decide +kernel
theorem dd_T_patterns_17 : decode bc_T_patterns 17 = .ok (.aload_n 0, 1) := by decide +kernel
theorem dd_T_patterns_18 : decode bc_T_patterns 18 = .ok (.getfield 10, 3) := by decide +kernel
theorem dd_T_patterns_21 : decode bc_T_patterns 21 = .ok (.invokevirtual 131, 3) := by decide +kernel
theorem dd_T_patterns_24 : decode bc_T_patterns 24 = .ok (.iload_n 1, 1) := by decide +kernel
theorem dd_T_patterns_25 : decode bc_T_patterns 25 = .ok (.iconst (-1), 1) := by decide +kernel
theorem dd_T_patterns_26 : decode bc_T_patterns 26 = .ok (.if_icmp .ne 13, 3) := by decide +kernel
theorem dd_T_patterns_29 : decode bc_T_patterns 29 = .ok (.aload_n 0, 1) := by decide +kernel
theorem dd_T_patterns_30 : decode bc_T_patterns 30 = .ok (.getfield 41, 3) := by decide +kernel
theorem dd_T_patterns_33 : decode bc_T_patterns 33 = .ok (.getfield 132, 3) := by decide +kernel
theorem dd_T_patterns_36 : decode bc_T_patterns 36 = .ok (.goto 15, 3) := by decide +kernel
theorem dd_T_patterns_39 : decode bc_T_patterns 39 = .ok (.aload_n 0, 1) := by decide +kernel
theorem dd_T_patterns_40 : decode bc_T_patterns 40 = .ok (.getfield 41, 3) := by decide +kernel
theorem dd_T_patterns_43 : decode bc_T_patterns 43 = .ok (.iload_n 1, 1) := by decide +kernel
theorem dd_T_patterns_44 : decode bc_T_patterns 44 = .ok (.aload_n 0, 1) := by decide +kernel
theorem dd_T_patterns_45 : decode bc_T_patterns 45 = .ok (.getfield 10, 3) := by decide +kernel
theorem dd_T_patterns_48 : decode bc_T_patterns 48 = .ok (.invokevirtual 133, 3) := by decide +kernel
theorem dd_T_patterns_51 : decode bc_T_patterns 51 = .ok (.ireturn, 1) := by decide +kernel
theorem dd_T_pattern_0 : decode bc_T_pattern 0 = .ok (.iload_n 2, 1) := by decide +kernel
theorem dd_T_pattern_1 : decode bc_T_pattern 1 = .ok (.iconst 0, 1) := by decide +kernel
theorem dd_T_pattern_2 : decode bc_T_pattern 2 = .ok (.iconst 4, 1) := by decide +kernel
theorem dd_T_pattern_3 : decode bc_T_pattern 3 = .ok (.invokestatic 45, 3) := by decide +kernel
theorem dd_T_pattern_6 : decode bc_T_pattern 6 = .ok (.ifCond .ne 6, 3) := by decide +kernel
theorem dd_T_pattern_9 : decode bc_T_pattern 9 = .ok (.bipush (-2), 2) := by decide +kernel
theorem dd_T_pattern_11 : decode bc_T_pattern 11 = .ok (.ireturn, 1) := by decide +kernel
theorem dd_T_pattern_12 : decode bc_T_pattern 12 = .ok (.aload_n 0, 1) := by decide +kernel
theorem dd_T_pattern_13 : decode bc_T_pattern 13 = .ok (.getfield 41, 3) := by decide +kernel
theorem dd_T_pattern_16 : decode bc_T_pattern 16 = .ok (.aload_n 0, 1) := by decide +kernel
theorem dd_T_pattern_17 : decode bc_T_pattern 17 = .ok (.getfield 10, 3) := by decide +kernel
theorem dd_T_pattern_20 : decode bc_T_pattern 20 = .ok (.invokevirtual 131, 3) := by decide +kernel
theorem dd_T_pattern_23 : decode bc_T_pattern 23 = .ok (.iload_n 1, 1) := by decide +kernel
theorem dd_T_pattern_24 : decode bc_T_pattern 24 = .ok (.iconst 0, 1) := by decide +kernel
theorem dd_T_pattern_25 : decode bc_T_pattern 25 = .ok (.aload_n 0, 1) := by decide +kernel
theorem dd_T_pattern_26 : decode bc_T_pattern 26 = .ok (.getfield 41, 3) := by decide +kernel
theorem dd_T_pattern_29 : decode bc_T_pattern 29 = .ok (.getfield 132, 3) := by decide +kernel
theorem dd_T_pattern_32 : decode bc_T_pattern 32 = .ok (.iconst 1, 1) := by decide +kernel
theorem dd_T_pattern_33 : decode bc_T_pattern 33 = .ok (.isub, 1) := by decide +kernel
theorem dd_T_pattern_34 : decode bc_T_pattern 34 = .ok (.invokestatic 45, 3) := by decide +kernel
theorem dd_T_pattern_37 : decode bc_T_pattern 37 = .ok (.ifCond .ne 6, 3) := by decide +kernel
theorem dd_T_pattern_40 : decode bc_T_pattern 40 = .ok (.bipush (-6), 2) := by decide +kernel
theorem dd_T_pattern_42 : decode bc_T_pattern 42 = .ok (.ireturn, 1) := by decide +kernel
theorem dd_T_pattern_43 : decode bc_T_pattern 43 = .ok (.aload_n 0, 1) := by decide +kernel
theorem dd_T_pattern_44 : decode bc_T_pattern 44 = .ok (.getfield 41, 3) := by decide +kernel
theorem dd_T_pattern_47 : decode bc_T_pattern 47 = .ok (.iload_n 1, 1) := by decide +kernel
theorem dd_T_pattern_48 : decode bc_T_pattern 48 = .ok (.invokevirtual 137, 3) := by decide +kernel
theorem dd_T_pattern_51 : decode bc_T_pattern 51 = .ok (.istore_n 3, 1) := by decide +kernel
theorem dd_T_pattern_52 : decode bc_T_pattern 52 = .ok (.iload_n 2, 1) := by decide +kernel
theorem dd_T_pattern_53 : decode bc_T_pattern 53 = .ok (.tableswitch 64 0 3 #[31, 33, 42, 51], 31) := by decide +kernel
theorem dd_T_pattern_84 : decode bc_T_pattern 84 = .ok (.iload_n 3, 1) := by decide +kernel
theorem dd_T_pattern_85 : decode bc_T_pattern 85 = .ok (.ireturn, 1) := by decide +kernel
theorem dd_T_pattern_86 : decode bc_T_pattern 86 = .ok (.aload_n 0, 1) := by decide +kernel
theorem dd_T_pattern_87 : decode bc_T_pattern 87 = .ok (.getfield 41, 3) := by decide +kernel
theorem dd_T_pattern_90 : decode bc_T_pattern 90 = .ok (.iload_n 1, 1) := by decide +kernel
theorem dd_T_pattern_91 : decode bc_T_pattern 91 = .ok (.invokevirtual 140, 3) := by decide +kernel
theorem dd_T_pattern_94 : decode bc_T_pattern 94 = .ok (.ireturn, 1) := by decide +kernel
theorem dd_T_pattern_95 : decode bc_T_pattern 95 = .ok (.aload_n 0, 1) := by decide +kernel
theorem dd_T_pattern_96 : decode bc_T_pattern 96 = .ok (.getfield 10, 3) := by decide +kernel
theorem dd_T_pattern_99 : decode bc_T_pattern 99 = .ok (.iload_n 3, 1) := by decide +kernel
theorem dd_T_pattern_100 : decode bc_T_pattern 100 = .ok (.invokevirtual 143, 3) := by decide +kernel
theorem dd_T_pattern_103 : decode bc_T_pattern 103 = .ok (.ireturn, 1) := by decide +kernel
theorem dd_T_pattern_104 : decode bc_T_pattern 104 = .ok (.aload_n 0, 1) := by decide +kernel
theorem dd_T_pattern_105 : decode bc_T_pattern 105 = .ok (.getfield 41, 3) := by decide +kernel
theorem dd_T_pattern_108 : decode bc_T_pattern 108 = .ok (.iload_n 1, 1) := by decide +kernel
theorem dd_T_pattern_109 : decode bc_T_pattern 109 = .ok (.aload_n 0, 1) := by decide +kernel
theorem dd_T_pattern_110 : decode bc_T_pattern 110 = .ok (.getfield 10, 3) := by decide +kernel
theorem dd_T_pattern_113 : decode bc_T_pattern 113 = .ok (.invokevirtual 146, 3) := by decide +kernel
theorem dd_T_pattern_116 : decode bc_T_pattern 116 = .ok (.ireturn, 1) := by decide +kernel
theorem dd_T_pattern_117 : decode bc_T_pattern 117 = .ok (.aload_n 0, 1) := by decide +kernel
theorem dd_T_pattern_118 : decode bc_T_pattern 118 = .ok (.getfield 10, 3) := by decide +kernel
theorem dd_T_pattern_121 : decode bc_T_pattern 121 = .ok (.iload_n 3, 1) := by decide +kernel
theorem dd_T_pattern_122 : decode bc_T_pattern 122 = .ok (.invokevirtual 149, 3) := by decide +kernel
theorem dd_T_pattern_125 : decode bc_T_pattern 125 = .ok (.ireturn, 1) := by decide +kernel
theorem dd_T_of_0 : decode bc_T_of 0 = .ok (.aload_n 0, 1) := by decide +kernel
theorem dd_T_of_1 : decode bc_T_of 1 = .ok (.iload_n 1, 1) := by decide +kernel
theorem dd_T_of_2 : decode bc_T_of 2 = .ok (.invokevirtual 152, 3) := by decide +kernel
theorem dd_T_of_5 : decode bc_T_of 5 = .ok (.ifCond .eq 12, 3) := by decide +kernel
theorem dd_T_of_8 : decode bc_T_of 8 = .ok (.iload_n 2, 1) := by decide +kernel
theorem dd_T_of_9 : decode bc_T_of 9 = .ok (.iconst 0, 1) := by decide +kernel
theorem dd_T_of_10 : decode bc_T_of 10 = .ok (.iconst 3, 1) := by decide +kernel
theorem dd_T_of_11 : decode bc_T_of 11 = .ok (.invokestatic 45, 3) := by decide +kernel
theorem dd_T_of_14 : decode bc_T_of 14 = .ok (.ifCond .ne 6, 3) := by decide +kernel
theorem dd_T_of_17 : decode bc_T_of 17 = .ok (.bipush (-2), 2) := by decide +kernel
theorem dd_T_of_19 : decode bc_T_of 19 = .ok (.ireturn, 1) := by decide +kernel
theorem dd_T_of_20 : decode bc_T_of 20 = .ok (.iload_n 2, 1) := by decide +kernel
theorem dd_T_of_21 : decode bc_T_of 21 = .ok (.iconst 3, 1) := by decide +kernel
theorem dd_T_of_22 : decode bc_T_of 22 = .ok (.if_icmp .ne 12, 3) := by decide +kernel
theorem dd_T_of_25 : decode bc_T_of 25 = .ok (.aload_n 0, 1) := by decide +kernel
theorem dd_T_of_26 : decode bc_T_of 26 = .ok (.getfield 10, 3) := by decide +kernel
theorem dd_T_of_29 : decode bc_T_of 29 = .ok (.iload_n 1, 1) := by decide +kernel
theorem dd_T_of_30 : decode bc_T_of 30 = .ok (.invokevirtual 155, 3) := by decide +kernel
theorem dd_T_of_33 : decode bc_T_of 33 = .ok (.ireturn, 1) := by decide +kernel
theorem dd_T_of_34 : decode bc_T_of 34 = .ok (.aload_n 0, 1) := by decide +kernel
theorem dd_T_of_35 : decode bc_T_of 35 = .ok (.getfield 41, 3) := by decide +kernel
theorem dd_T_of_38 : decode bc_T_of 38 = .ok (.aload_n 0, 1) := by decide +kernel
theorem dd_T_of_39 : decode bc_T_of 39 = .ok (.getfield 10, 3) := by decide +kernel
theorem dd_T_of_42 : decode bc_T_of 42 = .ok (.invokevirtual 131, 3) := by decide +kernel
theorem dd_T_of_45 : decode bc_T_of 45 = .ok (.aload_n 0, 1) := by decide +kernel
theorem dd_T_of_46 : decode bc_T_of 46 = .ok (.getfield 41, 3) := by decide +kernel
theorem dd_T_of_49 : decode bc_T_of 49 = .ok (.iload_n 1, 1) := by decide +kernel
theorem dd_T_of_50 : decode bc_T_of 50 = .ok (.invokevirtual 158, 3) := by decide +kernel
theorem dd_T_of_53 : decode bc_T_of 53 = .ok (.istore_n 3, 1) := by decide +kernel
theorem dd_T_of_54 : decode bc_T_of 54 = .ok (.iload_n 2, 1) := by decide +kernel
theorem dd_T_of_55 : decode bc_T_of 55 = .ok (.ifCond .ne 5, 3) := by decide +kernel
theorem dd_T_of_58 : decode bc_T_of 58 = .ok (.iload_n 3, 1) := by decide +kernel
theorem dd_T_of_59 : decode bc_T_of 59 = .ok (.ireturn, 1) := by decide +kernel
theorem dd_T_of_60 : decode bc_T_of 60 = .ok (.iload_n 2, 1) := by decide +kernel
theorem dd_T_of_61 : decode bc_T_of 61 = .ok (.iconst 1, 1) := by decide +kernel
theorem dd_T_of_62 : decode bc_T_of 62 = .ok (.if_icmp .ne 14, 3) := by decide +kernel
theorem dd_T_of_65 : decode bc_T_of 65 = .ok (.aload_n 0, 1) := by decide +kernel
theorem dd_T_of_66 : decode bc_T_of 66 = .ok (.getfield 41, 3) := by decide +kernel
theorem dd_T_of_69 : decode bc_T_of 69 = .ok (.iload_n 3, 1) := by decide +kernel
theorem dd_T_of_70 : decode bc_T_of 70 = .ok (.invokevirtual 137, 3) := by decide +kernel
theorem dd_T_of_73 : decode bc_T_of 73 = .ok (.goto 18, 3) := by decide +kernel
theorem dd_T_of_76 : decode bc_T_of 76 = .ok (.aload_n 0, 1) := by decide +kernel
theorem dd_T_of_77 : decode bc_T_of 77 = .ok (.getfield 41, 3) := by decide +kernel
theorem dd_T_of_80 : decode bc_T_of 80 = .ok (.iload_n 1, 1) := by decide +kernel
theorem dd_T_of_81 : decode bc_T_of 81 = .ok (.aload_n 0, 1) := by decide +kernel
theorem dd_T_of_82 : decode bc_T_of 82 = .ok (.getfield 10, 3) := by decide +kernel
theorem dd_T_of_85 : decode bc_T_of 85 = .ok (.getfield 52, 3) := by decide +kernel
theorem dd_T_of_88 : decode bc_T_of 88 = .ok (.invokevirtual 161, 3) := by decide +kernel
theorem dd_T_of_91 : decode bc_T_of 91 = .ok (.ireturn, 1) := by decide +kernel
theorem dd_T_kinds_0 : decode bc_T_kinds 0 = .ok (.iload_n 1, 1) := by decide +kernel
theorem dd_T_kinds_1 : decode bc_T_kinds 1 = .ok (.iconst 0, 1) := by decide +kernel
theorem dd_T_kinds_2 : decode bc_T_kinds 2 = .ok (.iconst 3, 1) := by decide +kernel
theorem dd_T_kinds_3 : decode bc_T_kinds 3 = .ok (.invokestatic 45, 3) := by decide +kernel
theorem dd_T_kinds_6 : decode bc_T_kinds 6 = .ok (.ifCond .ne 6, 3) := by decide +kernel
theorem dd_T_kinds_9 : decode bc_T_kinds 9 = .ok (.bipush (-2), 2) := by decide +kernel
theorem dd_T_kinds_11 : decode bc_T_kinds 11 = .ok (.ireturn, 1) := by decide +kernel
theorem dd_T_kinds_12 : decode bc_T_kinds 12 = .ok (.aload_n 0, 1) := by decide +kernel
theorem dd_T_kinds_13 : decode bc_T_kinds 13 = .ok (.getfield 41, 3) := by decide +kernel
theorem dd_T_kinds_16 : decode bc_T_kinds 16 = .ok (.aload_n 0, 1) := by decide +kernel
theorem dd_T_kinds_17 : decode bc_T_kinds 17 = .ok (.getfield 10, 3) := by decide +kernel
theorem dd_T_kinds_20 : decode bc_T_kinds 20 = .ok (.invokevirtual 131, 3) := by decide +kernel
theorem dd_T_kinds_23 : decode bc_T_kinds 23 = .ok (.iload_n 1, 1) := by decide +kernel
theorem dd_T_kinds_24 : decode bc_T_kinds 24 = .ok (.tableswitch 60 0 2 #[28, 40, 52], 28) := by decide +kernel
theorem dd_T_kinds_52 : decode bc_T_kinds 52 = .ok (.aload_n 0, 1) := by decide +kernel
theorem dd_T_kinds_53 : decode bc_T_kinds 53 = .ok (.getfield 41, 3) := by decide +kernel
theorem dd_T_kinds_56 : decode bc_T_kinds 56 = .ok (.aload_n 0, 1) := by decide +kernel
theorem dd_T_kinds_57 : decode bc_T_kinds 57 = .ok (.getfield 10, 3) := by decide +kernel
theorem dd_T_kinds_60 : decode bc_T_kinds 60 = .ok (.invokevirtual 165, 3) := by decide +kernel
theorem dd_T_kinds_63 : decode bc_T_kinds 63 = .ok (.ireturn, 1) := by decide +kernel
theorem dd_T_kinds_64 : decode bc_T_kinds 64 = .ok (.aload_n 0, 1) := by decide +kernel
theorem dd_T_kinds_65 : decode bc_T_kinds 65 = .ok (.getfield 41, 3) := by decide +kernel
theorem dd_T_kinds_68 : decode bc_T_kinds 68 = .ok (.aload_n 0, 1) := by decide +kernel
theorem dd_T_kinds_69 : decode bc_T_kinds 69 = .ok (.getfield 10, 3) := by decide +kernel
theorem dd_T_kinds_72 : decode bc_T_kinds 72 = .ok (.invokevirtual 169, 3) := by decide +kernel
theorem dd_T_kinds_75 : decode bc_T_kinds 75 = .ok (.ireturn, 1) := by decide +kernel
theorem dd_T_kinds_76 : decode bc_T_kinds 76 = .ok (.aload_n 0, 1) := by decide +kernel
theorem dd_T_kinds_77 : decode bc_T_kinds 77 = .ok (.getfield 41, 3) := by decide +kernel
theorem dd_T_kinds_80 : decode bc_T_kinds 80 = .ok (.invokevirtual 172, 3) := by decide +kernel
theorem dd_T_kinds_83 : decode bc_T_kinds 83 = .ok (.ireturn, 1) := by decide +kernel
theorem dd_T_kinds_84 : decode bc_T_kinds 84 = .ok (.aload_n 0, 1) := by decide +kernel
theorem dd_T_kinds_85 : decode bc_T_kinds 85 = .ok (.getfield 41, 3) := by decide +kernel
theorem dd_T_kinds_88 : decode bc_T_kinds 88 = .ok (.invokevirtual 176, 3) := by decide +kernel
theorem dd_T_kinds_91 : decode bc_T_kinds 91 = .ok (.ireturn, 1) := by decide +kernel
theorem dd_T_by_0 : decode bc_T_by 0 = .ok (.aload_n 0, 1) := by decide +kernel
theorem dd_T_by_1 : decode bc_T_by 1 = .ok (.iload_n 1, 1) := by decide +kernel
theorem dd_T_by_2 : decode bc_T_by 2 = .ok (.invokevirtual 152, 3) := by decide +kernel
theorem dd_T_by_5 : decode bc_T_by 5 = .ok (.ifCond .ne 6, 3) := by decide +kernel
theorem dd_T_by_8 : decode bc_T_by 8 = .ok (.bipush (-2), 2) := by decide +kernel
theorem dd_T_by_10 : decode bc_T_by 10 = .ok (.ireturn, 1) := by decide +kernel
theorem dd_T_by_11 : decode bc_T_by 11 = .ok (.iload_n 2, 1) := by decide +kernel
theorem dd_T_by_12 : decode bc_T_by 12 = .ok (.iconst 0, 1) := by decide +kernel
theorem dd_T_by_13 : decode bc_T_by 13 = .ok (.aload_n 0, 1) := by decide +kernel
theorem dd_T_by_14 : decode bc_T_by 14 = .ok (.getfield 10, 3) := by decide +kernel
theorem dd_T_by_17 : decode bc_T_by 17 = .ok (.getfield 49, 3) := by decide +kernel
theorem dd_T_by_20 : decode bc_T_by 20 = .ok (.iconst 1, 1) := by decide +kernel
theorem dd_T_by_21 : decode bc_T_by 21 = .ok (.isub, 1) := by decide +kernel
theorem dd_T_by_22 : decode bc_T_by 22 = .ok (.invokestatic 45, 3) := by decide +kernel
theorem dd_T_by_25 : decode bc_T_by 25 = .ok (.ifCond .ne 5, 3) := by decide +kernel
theorem dd_T_by_28 : decode bc_T_by 28 = .ok (.iconst (-1), 1) := by decide +kernel
theorem dd_T_by_29 : decode bc_T_by 29 = .ok (.ireturn, 1) := by decide +kernel
theorem dd_T_by_30 : decode bc_T_by 30 = .ok (.aload_n 0, 1) := by decide +kernel
theorem dd_T_by_31 : decode bc_T_by 31 = .ok (.getfield 41, 3) := by decide +kernel
theorem dd_T_by_34 : decode bc_T_by 34 = .ok (.aload_n 0, 1) := by decide +kernel
theorem dd_T_by_35 : decode bc_T_by 35 = .ok (.getfield 10, 3) := by decide +kernel
theorem dd_T_by_38 : decode bc_T_by 38 = .ok (.invokevirtual 131, 3) := by decide +kernel
theorem dd_T_by_41 : decode bc_T_by 41 = .ok (.aload_n 0, 1) := by decide +kernel
theorem dd_T_by_42 : decode bc_T_by 42 = .ok (.getfield 41, 3) := by decide +kernel
theorem dd_T_by_45 : decode bc_T_by 45 = .ok (.iload_n 1, 1) := by decide +kernel
theorem dd_T_by_46 : decode bc_T_by 46 = .ok (.aload_n 0, 1) := by decide +kernel
theorem dd_T_by_47 : decode bc_T_by 47 = .ok (.getfield 10, 3) := by decide +kernel
theorem dd_T_by_50 : decode bc_T_by 50 = .ok (.getfield 52, 3) := by decide +kernel
theorem dd_T_by_53 : decode bc_T_by 53 = .ok (.invokevirtual 179, 3) := by decide +kernel
theorem dd_T_by_56 : decode bc_T_by 56 = .ok (.iload_n 2, 1) := by decide +kernel
theorem dd_T_by_57 : decode bc_T_by 57 = .ok (.invokestatic 182, 3) := by decide +kernel
theorem dd_T_by_60 : decode bc_T_by 60 = .ok (.ireturn, 1) := by decide +kernel
theorem dd_T_image_0 : decode bc_T_image 0 = .ok (.iload_n 1, 1) := by decide +kernel
theorem dd_T_image_1 : decode bc_T_image 1 = .ok (.iconst 0, 1) := by decide +kernel
theorem dd_T_image_2 : decode bc_T_image 2 = .ok (.iconst 1, 1) := by decide +kernel
theorem dd_T_image_3 : decode bc_T_image 3 = .ok (.invokestatic 45, 3) := by decide +kernel
theorem dd_T_image_6 : decode bc_T_image 6 = .ok (.ifCond .ne 6, 3) := by decide +kernel
theorem dd_T_image_9 : decode bc_T_image 9 = .ok (.bipush (-2), 2) := by decide +kernel
theorem dd_T_image_11 : decode bc_T_image 11 = .ok (.ireturn, 1) := by decide +kernel
theorem dd_T_image_12 : decode bc_T_image 12 = .ok (.aload_n 0, 1) := by decide +kernel
theorem dd_T_image_13 : decode bc_T_image 13 = .ok (.getfield 16, 3) := by decide +kernel
theorem dd_T_image_16 : decode bc_T_image 16 = .ok (.iload_n 1, 1) := by decide +kernel
theorem dd_T_image_17 : decode bc_T_image 17 = .ok (.aaload, 1) := by decide +kernel
theorem dd_T_image_18 : decode bc_T_image 18 = .ok (.aload_n 0, 1) := by decide +kernel
theorem dd_T_image_19 : decode bc_T_image 19 = .ok (.getfield 10, 3) := by decide +kernel
theorem dd_T_image_22 : decode bc_T_image 22 = .ok (.invokevirtual 185, 3) := by decide +kernel
theorem dd_T_image_25 : decode bc_T_image 25 = .ok (.aload_n 0, 1) := by decide +kernel
theorem dd_T_image_26 : decode bc_T_image 26 = .ok (.dup, 1) := by decide +kernel
theorem dd_T_image_27 : decode bc_T_image 27 = .ok (.getfield 20, 3) := by decide +kernel
theorem dd_T_image_30 : decode bc_T_image 30 = .ok (.iconst 1, 1) := by decide +kernel
theorem dd_T_image_31 : decode bc_T_image 31 = .ok (.iload_n 1, 1) := by decide +kernel
theorem dd_T_image_32 : decode bc_T_image 32 = .ok (.ishl, 1) := by decide +kernel
theorem dd_T_image_33 : decode bc_T_image 33 = .ok (.ior, 1) := by decide +kernel
theorem dd_T_image_34 : decode bc_T_image 34 = .ok (.putfield 20, 3) := by decide +kernel
theorem dd_T_image_37 : decode bc_T_image 37 = .ok (.iconst 1, 1) := by decide +kernel
theorem dd_T_image_38 : decode bc_T_image 38 = .ok (.ireturn, 1) := by decide +kernel
theorem dd_T_restore_0 : decode bc_T_restore 0 = .ok (.iload_n 1, 1) := by decide +kernel
theorem dd_T_restore_1 : decode bc_T_restore 1 = .ok (.iconst 0, 1) := by decide +kernel
theorem dd_T_restore_2 : decode bc_T_restore 2 = .ok (.iconst 1, 1) := by decide +kernel
theorem dd_T_restore_3 : decode bc_T_restore 3 = .ok (.invokestatic 45, 3) := by decide +kernel
theorem dd_T_restore_6 : decode bc_T_restore 6 = .ok (.ifCond .ne 6, 3) := by decide +kernel
theorem dd_T_restore_9 : decode bc_T_restore 9 = .ok (.bipush (-2), 2) := by decide +kernel
theorem dd_T_restore_11 : decode bc_T_restore 11 = .ok (.ireturn, 1) := by decide +kernel
theorem dd_T_restore_12 : decode bc_T_restore 12 = .ok (.aload_n 0, 1) := by decide +kernel
theorem dd_T_restore_13 : decode bc_T_restore 13 = .ok (.getfield 20, 3) := by decide +kernel
theorem dd_T_restore_16 : decode bc_T_restore 16 = .ok (.iload_n 1, 1) := by decide +kernel
theorem dd_T_restore_17 : decode bc_T_restore 17 = .ok (.ishr, 1) := by decide +kernel
theorem dd_T_restore_18 : decode bc_T_restore 18 = .ok (.iconst 1, 1) := by decide +kernel
theorem dd_T_restore_19 : decode bc_T_restore 19 = .ok (.iand, 1) := by decide +kernel
theorem dd_T_restore_20 : decode bc_T_restore 20 = .ok (.ifCond .ne 6, 3) := by decide +kernel
theorem dd_T_restore_23 : decode bc_T_restore 23 = .ok (.bipush (-3), 2) := by decide +kernel
theorem dd_T_restore_25 : decode bc_T_restore 25 = .ok (.ireturn, 1) := by decide +kernel
theorem dd_T_restore_26 : decode bc_T_restore 26 = .ok (.aload_n 0, 1) := by decide +kernel
theorem dd_T_restore_27 : decode bc_T_restore 27 = .ok (.getfield 10, 3) := by decide +kernel
theorem dd_T_restore_30 : decode bc_T_restore 30 = .ok (.aload_n 0, 1) := by decide +kernel
theorem dd_T_restore_31 : decode bc_T_restore 31 = .ok (.getfield 16, 3) := by decide +kernel
theorem dd_T_restore_34 : decode bc_T_restore 34 = .ok (.iload_n 1, 1) := by decide +kernel
theorem dd_T_restore_35 : decode bc_T_restore 35 = .ok (.aaload, 1) := by decide +kernel
theorem dd_T_restore_36 : decode bc_T_restore 36 = .ok (.invokevirtual 185, 3) := by decide +kernel
theorem dd_T_restore_39 : decode bc_T_restore 39 = .ok (.aload_n 0, 1) := by decide +kernel
theorem dd_T_restore_40 : decode bc_T_restore 40 = .ok (.invokevirtual 61, 3) := by decide +kernel
theorem dd_T_restore_43 : decode bc_T_restore 43 = .ok (.iconst 1, 1) := by decide +kernel
theorem dd_T_restore_44 : decode bc_T_restore 44 = .ok (.ireturn, 1) := by decide +kernel
theorem dd_T_count_0 : decode bc_T_count 0 = .ok (.iload_n 1, 1) := by decide +kernel
theorem dd_T_count_1 : decode bc_T_count 1 = .ok (.tableswitch 75 0 4 #[35, 43, 54, 62, 70], 35) := by decide +kernel
theorem dd_T_count_36 : decode bc_T_count 36 = .ok (.aload_n 0, 1) := by decide +kernel
theorem dd_T_count_37 : decode bc_T_count 37 = .ok (.getfield 10, 3) := by decide +kernel
theorem dd_T_count_40 : decode bc_T_count 40 = .ok (.getfield 49, 3) := by decide +kernel
theorem dd_T_count_43 : decode bc_T_count 43 = .ok (.ireturn, 1) := by decide +kernel
theorem dd_T_count_44 : decode bc_T_count 44 = .ok (.aload_n 0, 1) := by decide +kernel
theorem dd_T_count_45 : decode bc_T_count 45 = .ok (.getfield 10, 3) := by decide +kernel
theorem dd_T_count_48 : decode bc_T_count 48 = .ok (.getfield 52, 3) := by decide +kernel
theorem dd_T_count_51 : decode bc_T_count 51 = .ok (.getfield 72, 3) := by decide +kernel
theorem dd_T_count_54 : decode bc_T_count 54 = .ok (.ireturn, 1) := by decide +kernel
theorem dd_T_count_55 : decode bc_T_count 55 = .ok (.aload_n 0, 1) := by decide +kernel
theorem dd_T_count_56 : decode bc_T_count 56 = .ok (.getfield 10, 3) := by decide +kernel
theorem dd_T_count_59 : decode bc_T_count 59 = .ok (.getfield 121, 3) := by decide +kernel
theorem dd_T_count_62 : decode bc_T_count 62 = .ok (.ireturn, 1) := by decide +kernel
theorem dd_T_count_63 : decode bc_T_count 63 = .ok (.aload_n 0, 1) := by decide +kernel
theorem dd_T_count_64 : decode bc_T_count 64 = .ok (.getfield 27, 3) := by decide +kernel
theorem dd_T_count_67 : decode bc_T_count 67 = .ok (.getfield 79, 3) := by decide +kernel
theorem dd_T_count_70 : decode bc_T_count 70 = .ok (.ireturn, 1) := by decide +kernel
theorem dd_T_count_71 : decode bc_T_count 71 = .ok (.aload_n 0, 1) := by decide +kernel
theorem dd_T_count_72 : decode bc_T_count 72 = .ok (.getfield 20, 3) := by decide +kernel
theorem dd_T_count_75 : decode bc_T_count 75 = .ok (.ireturn, 1) := by decide +kernel
theorem dd_T_count_76 : decode bc_T_count 76 = .ok (.iload_n 1, 1) := by decide +kernel
theorem dd_T_count_77 : decode bc_T_count 77 = .ok (.bipush 10, 2) := by decide +kernel
theorem dd_T_count_79 : decode bc_T_count 79 = .ok (.bipush 13, 2) := by decide +kernel
theorem dd_T_count_81 : decode bc_T_count 81 = .ok (.invokestatic 45, 3) := by decide +kernel
theorem dd_T_count_84 : decode bc_T_count 84 = .ok (.ifCond .eq 18, 3) := by decide +kernel
theorem dd_T_count_87 : decode bc_T_count 87 = .ok (.aload_n 0, 1) := by decide +kernel
theorem dd_T_count_88 : decode bc_T_count 88 = .ok (.getfield 10, 3) := by decide +kernel
theorem dd_T_count_91 : decode bc_T_count 91 = .ok (.getfield 128, 3) := by decide +kernel
theorem dd_T_count_94 : decode bc_T_count 94 = .ok (.iload_n 1, 1) := by decide +kernel
theorem dd_T_count_95 : decode bc_T_count 95 = .ok (.bipush 10, 2) := by decide +kernel
theorem dd_T_count_97 : decode bc_T_count 97 = .ok (.isub, 1) := by decide +kernel
theorem dd_T_count_98 : decode bc_T_count 98 = .ok (.iaload, 1) := by decide +kernel
theorem dd_T_count_99 : decode bc_T_count 99 = .ok (.goto 5, 3) := by decide +kernel
theorem dd_T_count_102 : decode bc_T_count 102 = .ok (.bipush (-2), 2) := by decide +kernel
theorem dd_T_count_104 : decode bc_T_count 104 = .ok (.ireturn, 1) := by decide +kernel
theorem dd_T_isWithin_0 : decode bc_T_isWithin 0 = .ok (.iload_n 0, 1) := by decide +kernel
theorem dd_T_isWithin_1 : decode bc_T_isWithin 1 = .ok (.iload_n 1, 1) := by decide +kernel
theorem dd_T_isWithin_2 : decode bc_T_isWithin 2 = .ok (.if_icmp .lt 12, 3) := by decide +kernel
theorem dd_T_isWithin_5 : decode bc_T_isWithin 5 = .ok (.iload_n 0, 1) := by decide +kernel
theorem dd_T_isWithin_6 : decode bc_T_isWithin 6 = .ok (.iload_n 2, 1) := by decide +kernel
theorem dd_T_isWithin_7 : decode bc_T_isWithin 7 = .ok (.if_icmp .gt 7, 3) := by decide +kernel
theorem dd_T_isWithin_10 : decode bc_T_isWithin 10 = .ok (.iconst 1, 1) := by decide +kernel
theorem dd_T_isWithin_11 : decode bc_T_isWithin 11 = .ok (.goto 4, 3) := by decide +kernel
theorem dd_T_isWithin_14 : decode bc_T_isWithin 14 = .ok (.iconst 0, 1) := by decide +kernel
theorem dd_T_isWithin_15 : decode bc_T_isWithin 15 = .ok (.ireturn, 1) := by decide +kernel
theorem dd_T_isKind_0 : decode bc_T_isKind 0 = .ok (.iload_n 0, 1) := by decide +kernel
theorem dd_T_isKind_1 : decode bc_T_isKind 1 = .ok (.iconst 0, 1) := by decide +kernel
theorem dd_T_isKind_2 : decode bc_T_isKind 2 = .ok (.iconst 4, 1) := by decide +kernel
theorem dd_T_isKind_3 : decode bc_T_isKind 3 = .ok (.invokestatic 45, 3) := by decide +kernel
theorem dd_T_isKind_6 : decode bc_T_isKind 6 = .ok (.ireturn, 1) := by decide +kernel
theorem dd_T_isNumber_0 : decode bc_T_isNumber 0 = .ok (.iload_n 1, 1) := by decide +kernel
theorem dd_T_isNumber_1 : decode bc_T_isNumber 1 = .ok (.iconst 0, 1) := by decide +kernel
theorem dd_T_isNumber_2 : decode bc_T_isNumber 2 = .ok (.aload_n 0, 1) := by decide +kernel
theorem dd_T_isNumber_3 : decode bc_T_isNumber 3 = .ok (.getfield 10, 3) := by decide +kernel
theorem dd_T_isNumber_6 : decode bc_T_isNumber 6 = .ok (.invokevirtual 188, 3) := by decide +kernel
theorem dd_T_isNumber_9 : decode bc_T_isNumber 9 = .ok (.iconst 1, 1) := by decide +kernel
theorem dd_T_isNumber_10 : decode bc_T_isNumber 10 = .ok (.isub, 1) := by decide +kernel
theorem dd_T_isNumber_11 : decode bc_T_isNumber 11 = .ok (.invokestatic 45, 3) := by decide +kernel
theorem dd_T_isNumber_14 : decode bc_T_isNumber 14 = .ok (.ireturn, 1) := by decide +kernel
theorem dd_T_forgetGroup_0 : decode bc_T_forgetGroup 0 = .ok (.aload_n 0, 1) := by decide +kernel
theorem dd_T_forgetGroup_1 : decode bc_T_forgetGroup 1 = .ok (.getfield 34, 3) := by decide +kernel
theorem dd_T_forgetGroup_4 : decode bc_T_forgetGroup 4 = .ok (.iconst 0, 1) := by decide +kernel
theorem dd_T_forgetGroup_5 : decode bc_T_forgetGroup 5 = .ok (.putfield 191, 3) := by decide +kernel
theorem dd_T_forgetGroup_8 : decode bc_T_forgetGroup 8 = .ok (.aload_n 0, 1) := by decide +kernel
theorem dd_T_forgetGroup_9 : decode bc_T_forgetGroup 9 = .ok (.getfield 41, 3) := by decide +kernel
theorem dd_T_forgetGroup_12 : decode bc_T_forgetGroup 12 = .ok (.iconst 0, 1) := by decide +kernel
theorem dd_T_forgetGroup_13 : decode bc_T_forgetGroup 13 = .ok (.putfield 124, 3) := by decide +kernel
theorem dd_T_forgetGroup_16 : decode bc_T_forgetGroup 16 = .ok (.return_, 1) := by decide +kernel
theorem dd_M_init_0 : decode bc_M_init 0 = .ok (.aload_n 0, 1) := by decide +kernel
theorem dd_M_init_1 : decode bc_M_init 1 = .ok (.invokespecial 1, 3) := by decide +kernel
theorem dd_M_init_4 : decode bc_M_init 4 = .ok (.aload_n 0, 1) := by decide +kernel
theorem dd_M_init_5 : decode bc_M_init 5 = .ok (.sipush 5046, 3) := by decide +kernel
theorem dd_M_init_8 : decode bc_M_init 8 = .ok (.newarray .int, 2) := by decide +kernel
theorem dd_M_init_10 : decode bc_M_init 10 = .ok (.putfield 7, 3) := by decide +kernel
theorem dd_M_init_13 : decode bc_M_init 13 = .ok (.aload_n 0, 1) := by decide +kernel
theorem dd_M_init_14 : decode bc_M_init 14 = .ok (.sipush 10092, 3) := by decide +kernel
theorem dd_M_init_17 : decode bc_M_init 17 = .ok (.newarray .int, 2) := by decide +kernel
theorem dd_M_init_19 : decode bc_M_init 19 = .ok (.putfield 13, 3) := by decide +kernel
theorem dd_M_init_22 : decode bc_M_init 22 = .ok (.aload_n 0, 1) := by decide +kernel
theorem dd_M_init_23 : decode bc_M_init 23 = .ok (.iconst 2, 1) := by decide +kernel
theorem dd_M_init_24 : decode bc_M_init 24 = .ok (.newarray .boolean, 2) := by decide +kernel
theorem dd_M_init_26 : decode bc_M_init 26 = .ok (.putfield 16, 3) := by decide +kernel
theorem dd_M_init_29 : decode bc_M_init 29 = .ok (.aload_n 0, 1) := by decide +kernel
theorem dd_M_init_30 : decode bc_M_init 30 = .ok (.bipush 7, 2) := by decide +kernel
theorem dd_M_init_32 : decode bc_M_init 32 = .ok (.newarray .int, 2) := by decide +kernel
theorem dd_M_init_34 : decode bc_M_init 34 = .ok (.putfield 20, 3) := by decide +kernel
theorem dd_M_init_37 : decode bc_M_init 37 = .ok (.aload_n 0, 1) := by decide +kernel
theorem dd_M_init_38 : decode bc_M_init 38 = .ok (.bipush 7, 2) := by decide +kernel
theorem dd_M_init_40 : decode bc_M_init 40 = .ok (.newarray .int, 2) := by decide +kernel
theorem dd_M_init_42 : decode bc_M_init 42 = .ok (.putfield 23, 3) := by decide +kernel
theorem dd_M_init_45 : decode bc_M_init 45 = .ok (.aload_n 0, 1) := by decide +kernel
theorem dd_M_init_46 : decode bc_M_init 46 = .ok (.bipush 7, 2) := by decide +kernel
theorem dd_M_init_48 : decode bc_M_init 48 = .ok (.newarray .boolean, 2) := by decide +kernel
theorem dd_M_init_50 : decode bc_M_init 50 = .ok (.putfield 26, 3) := by decide +kernel
theorem dd_M_init_53 : decode bc_M_init 53 = .ok (.aload_n 0, 1) := by decide +kernel
theorem dd_M_init_54 : decode bc_M_init 54 = .ok (.sipush 420, 3) := by decide +kernel
theorem dd_M_init_57 : decode bc_M_init 57 = .ok (.newarray .int, 2) := by decide +kernel
theorem dd_M_init_59 : decode bc_M_init 59 = .ok (.putfield 29, 3) := by decide +kernel
theorem dd_M_init_62 : decode bc_M_init 62 = .ok (.aload_n 0, 1) := by decide +kernel
theorem dd_M_init_63 : decode bc_M_init 63 = .ok (.sipush 5040, 3) := by decide +kernel
theorem dd_M_init_66 : decode bc_M_init 66 = .ok (.newarray .int, 2) := by decide +kernel
theorem dd_M_init_68 : decode bc_M_init 68 = .ok (.putfield 32, 3) := by decide +kernel
theorem dd_M_init_71 : decode bc_M_init 71 = .ok (.aload_n 0, 1) := by decide +kernel
theorem dd_M_init_72 : decode bc_M_init 72 = .ok (.ldc 35, 2) := by decide +kernel
theorem dd_M_init_74 : decode bc_M_init 74 = .ok (.newarray .int, 2) := by decide +kernel
theorem dd_M_init_76 : decode bc_M_init 76 = .ok (.putfield 36, 3) := by decide +kernel
theorem dd_M_init_79 : decode bc_M_init 79 = .ok (.aload_n 0, 1) := by decide +kernel
theorem dd_M_init_80 : decode bc_M_init 80 = .ok (.sipush 5040, 3) := by decide +kernel
theorem dd_M_init_83 : decode bc_M_init 83 = .ok (.newarray .int, 2) := by decide +kernel
theorem dd_M_init_85 : decode bc_M_init 85 = .ok (.putfield 39, 3) := by decide +kernel
theorem dd_M_init_88 : decode bc_M_init 88 = .ok (.aload_n 0, 1) := by decide +kernel
theorem dd_M_init_89 : decode bc_M_init 89 = .ok (.bipush 8, 2) := by decide +kernel
theorem dd_M_init_91 : decode bc_M_init 91 = .ok (.newarray .int, 2) := by decide +kernel
theorem dd_M_init_93 : decode bc_M_init 93 = .ok (.putfield 42, 3) := by decide +kernel
theorem dd_M_init_96 : decode bc_M_init 96 = .ok (.aload_n 0, 1) := by decide +kernel
theorem dd_M_init_97 : decode bc_M_init 97 = .ok (.bipush 16, 2) := by decide +kernel
theorem dd_M_init_99 : decode bc_M_init 99 = .ok (.newarray .int, 2) := by decide +kernel
theorem dd_M_init_101 : decode bc_M_init 101 = .ok (.putfield 45, 3) := by decide +kernel
theorem dd_M_init_104 : decode bc_M_init 104 = .ok (.aload_n 0, 1) := by decide +kernel
theorem dd_M_init_105 : decode bc_M_init 105 = .ok (.bipush 16, 2) := by decide +kernel
theorem dd_M_init_107 : decode bc_M_init 107 = .ok (.newarray .int, 2) := by decide +kernel
theorem dd_M_init_109 : decode bc_M_init 109 = .ok (.putfield 48, 3) := by decide +kernel
theorem dd_M_init_112 : decode bc_M_init 112 = .ok (.aload_n 0, 1) := by decide +kernel
theorem dd_M_init_113 : decode bc_M_init 113 = .ok (.bipush 7, 2) := by decide +kernel
theorem dd_M_init_115 : decode bc_M_init 115 = .ok (.newarray .int, 2) := by decide +kernel
theorem dd_M_init_117 : decode bc_M_init 117 = .ok (.putfield 51, 3) := by decide +kernel
theorem dd_M_init_120 : decode bc_M_init 120 = .ok (.aload_n 0, 1) := by decide +kernel
theorem dd_M_init_121 : decode bc_M_init 121 = .ok (.sipush 16384, 3) := by decide +kernel
theorem dd_M_init_124 : decode bc_M_init 124 = .ok (.newarray .int, 2) := by decide +kernel
theorem dd_M_init_126 : decode bc_M_init 126 = .ok (.putfield 54, 3) := by decide +kernel
theorem dd_M_init_129 : decode bc_M_init 129 = .ok (.aload_n 0, 1) := by decide +kernel
theorem dd_M_init_130 : decode bc_M_init 130 = .ok (.sipush 16384, 3) := by decide +kernel
theorem dd_M_init_133 : decode bc_M_init 133 = .ok (.newarray .int, 2) := by decide +kernel
theorem dd_M_init_135 : decode bc_M_init 135 = .ok (.putfield 57, 3) := by decide +kernel
theorem dd_M_init_138 : decode bc_M_init 138 = .ok (.aload_n 0, 1) := by decide +kernel
theorem dd_M_init_139 : decode bc_M_init 139 = .ok (.sipush 16384, 3) := by decide +kernel
theorem dd_M_init_142 : decode bc_M_init 142 = .ok (.newarray .int, 2) := by decide +kernel
theorem dd_M_init_144 : decode bc_M_init 144 = .ok (.putfield 60, 3) := by decide +kernel
theorem dd_M_init_147 : decode bc_M_init 147 = .ok (.aload_n 0, 1) := by decide +kernel
theorem dd_M_init_148 : decode bc_M_init 148 = .ok (.bipush 7, 2) := by decide +kernel
theorem dd_M_init_150 : decode bc_M_init 150 = .ok (.newarray .int, 2) := by decide +kernel
theorem dd_M_init_152 : decode bc_M_init 152 = .ok (.putfield 63, 3) := by decide +kernel
theorem dd_M_init_155 : decode bc_M_init 155 = .ok (.aload_n 0, 1) := by decide +kernel
theorem dd_M_init_156 : decode bc_M_init 156 = .ok (.getfield 7, 3) := by decide +kernel
theorem dd_M_init_159 : decode bc_M_init 159 = .ok (.iconst 0, 1) := by decide +kernel
theorem dd_M_init_160 : decode bc_M_init 160 = .ok (.iconst 4, 1) := by decide +kernel
theorem dd_M_init_161 : decode bc_M_init 161 = .ok (.iastore, 1) := by decide +kernel
theorem dd_M_init_162 : decode bc_M_init 162 = .ok (.aload_n 0, 1) := by decide +kernel
theorem dd_M_init_163 : decode bc_M_init 163 = .ok (.getfield 7, 3) := by decide +kernel
theorem dd_M_init_166 : decode bc_M_init 166 = .ok (.iconst 1, 1) := by decide +kernel
theorem dd_M_init_167 : decode bc_M_init 167 = .ok (.iconst 2, 1) := by decide +kernel
theorem dd_M_init_168 : decode bc_M_init 168 = .ok (.iastore, 1) := by decide +kernel
theorem dd_M_init_169 : decode bc_M_init 169 = .ok (.iconst 0, 1) := by decide +kernel
theorem dd_M_init_170 : decode bc_M_init 170 = .ok (.istore_n 1, 1) := by decide +kernel
theorem dd_M_init_171 : decode bc_M_init 171 = .ok (.iload_n 1, 1) := by decide +kernel
theorem dd_M_init_172 : decode bc_M_init 172 = .ok (.iconst 4, 1) := by decide +kernel
theorem dd_M_init_173 : decode bc_M_init 173 = .ok (.if_icmp .ge 18, 3) := by decide +kernel
theorem dd_M_init_176 : decode bc_M_init 176 = .ok (.aload_n 0, 1) := by decide +kernel
theorem dd_M_init_177 : decode bc_M_init 177 = .ok (.getfield 7, 3) := by decide +kernel
theorem dd_M_init_180 : decode bc_M_init 180 = .ok (.iconst 2, 1) := by decide +kernel
theorem dd_M_init_181 : decode bc_M_init 181 = .ok (.iload_n 1, 1) := by decide +kernel
theorem dd_M_init_182 : decode bc_M_init 182 = .ok (.iadd, 1) := by decide +kernel
theorem dd_M_init_183 : decode bc_M_init 183 = .ok (.iload_n 1, 1) := by decide +kernel
theorem dd_M_init_184 : decode bc_M_init 184 = .ok (.iastore, 1) := by decide +kernel
theorem dd_M_init_185 : decode bc_M_init 185 = .ok (.iinc 1 1, 3) := by decide +kernel
theorem dd_M_init_188 : decode bc_M_init 188 = .ok (.goto (-17), 3) := by decide +kernel
theorem dd_M_init_191 : decode bc_M_init 191 = .ok (.aload_n 0, 1) := by decide +kernel
theorem dd_M_init_192 : decode bc_M_init 192 = .ok (.invokevirtual 66, 3) := by decide +kernel
theorem dd_M_init_195 : decode bc_M_init 195 = .ok (.aload_n 0, 1) := by decide +kernel
theorem dd_M_init_196 : decode bc_M_init 196 = .ok (.invokevirtual 69, 3) := by decide +kernel
theorem dd_M_init_199 : decode bc_M_init 199 = .ok (.return_, 1) := by decide +kernel
theorem dd_M_in_0 : decode bc_M_in 0 = .ok (.iload_n 0, 1) := by decide +kernel
theorem dd_M_in_1 : decode bc_M_in 1 = .ok (.iload_n 1, 1) := by decide +kernel
theorem dd_M_in_2 : decode bc_M_in 2 = .ok (.if_icmp .lt 12, 3) := by decide +kernel
theorem dd_M_in_5 : decode bc_M_in 5 = .ok (.iload_n 0, 1) := by decide +kernel
theorem dd_M_in_6 : decode bc_M_in 6 = .ok (.iload_n 2, 1) := by decide +kernel
theorem dd_M_in_7 : decode bc_M_in 7 = .ok (.if_icmp .gt 7, 3) := by decide +kernel
theorem dd_M_in_10 : decode bc_M_in 10 = .ok (.iconst 1, 1) := by decide +kernel
theorem dd_M_in_11 : decode bc_M_in 11 = .ok (.goto 4, 3) := by decide +kernel
theorem dd_M_in_14 : decode bc_M_in 14 = .ok (.iconst 0, 1) := by decide +kernel
theorem dd_M_in_15 : decode bc_M_in 15 = .ok (.ireturn, 1) := by decide +kernel
theorem dd_M_many_0 : decode bc_M_many 0 = .ok (.aload_n 0, 1) := by decide +kernel
theorem dd_M_many_1 : decode bc_M_many 1 = .ok (.getfield 7, 3) := by decide +kernel
theorem dd_M_many_4 : decode bc_M_many 4 = .ok (.iconst 0, 1) := by decide +kernel
theorem dd_M_many_5 : decode bc_M_many 5 = .ok (.iaload, 1) := by decide +kernel
theorem dd_M_many_6 : decode bc_M_many 6 = .ok (.ireturn, 1) := by decide +kernel
theorem dd_M_rank_0 : decode bc_M_rank 0 = .ok (.iconst 0, 1) := by decide +kernel
theorem dd_M_rank_1 : decode bc_M_rank 1 = .ok (.istore_n 1, 1) := by decide +kernel
theorem dd_M_rank_2 : decode bc_M_rank 2 = .ok (.iconst 0, 1) := by decide +kernel
theorem dd_M_rank_3 : decode bc_M_rank 3 = .ok (.istore_n 2, 1) := by decide +kernel
theorem dd_M_rank_4 : decode bc_M_rank 4 = .ok (.iload_n 2, 1) := by decide +kernel
theorem dd_M_rank_5 : decode bc_M_rank 5 = .ok (.aload_n 0, 1) := by decide +kernel
theorem dd_M_rank_6 : decode bc_M_rank 6 = .ok (.invokevirtual 72, 3) := by decide +kernel
theorem dd_M_rank_9 : decode bc_M_rank 9 = .ok (.if_icmp .ge 66, 3) := by decide +kernel
theorem dd_M_rank_12 : decode bc_M_rank 12 = .ok (.iconst 0, 1) := by decide +kernel
theorem dd_M_rank_13 : decode bc_M_rank 13 = .ok (.istore_n 3, 1) := by decide +kernel
theorem dd_M_rank_14 : decode bc_M_rank 14 = .ok (.iload_n 2, 1) := by decide +kernel
theorem dd_M_rank_15 : decode bc_M_rank 15 = .ok (.iconst 1, 1) := by decide +kernel
theorem dd_M_rank_16 : decode bc_M_rank 16 = .ok (.iadd, 1) := by decide +kernel
theorem dd_M_rank_17 : decode bc_M_rank 17 = .ok (.istore 4, 2) := by decide +kernel
theorem dd_M_rank_19 : decode bc_M_rank 19 = .ok (.iload 4, 2) := by decide +kernel
theorem dd_M_rank_21 : decode bc_M_rank 21 = .ok (.aload_n 0, 1) := by decide +kernel
theorem dd_M_rank_22 : decode bc_M_rank 22 = .ok (.invokevirtual 72, 3) := by decide +kernel
theorem dd_M_rank_25 : decode bc_M_rank 25 = .ok (.if_icmp .ge 33, 3) := by decide +kernel
theorem dd_M_rank_28 : decode bc_M_rank 28 = .ok (.iload_n 3, 1) := by decide +kernel
theorem dd_M_rank_29 : decode bc_M_rank 29 = .ok (.aload_n 0, 1) := by decide +kernel
theorem dd_M_rank_30 : decode bc_M_rank 30 = .ok (.getfield 23, 3) := by decide +kernel
theorem dd_M_rank_33 : decode bc_M_rank 33 = .ok (.iload 4, 2) := by decide +kernel
theorem dd_M_rank_35 : decode bc_M_rank 35 = .ok (.iaload, 1) := by decide +kernel
theorem dd_M_rank_36 : decode bc_M_rank 36 = .ok (.aload_n 0, 1) := by decide +kernel
theorem dd_M_rank_37 : decode bc_M_rank 37 = .ok (.getfield 23, 3) := by decide +kernel
theorem dd_M_rank_40 : decode bc_M_rank 40 = .ok (.iload_n 2, 1) := by decide +kernel
theorem dd_M_rank_41 : decode bc_M_rank 41 = .ok (.iaload, 1) := by decide +kernel
theorem dd_M_rank_42 : decode bc_M_rank 42 = .ok (.if_icmp .ge 7, 3) := by decide +kernel
theorem dd_M_rank_45 : decode bc_M_rank 45 = .ok (.iconst 1, 1) := by decide +kernel
theorem dd_M_rank_46 : decode bc_M_rank 46 = .ok (.goto 4, 3) := by decide +kernel
theorem dd_M_rank_49 : decode bc_M_rank 49 = .ok (.iconst 0, 1) := by decide +kernel
theorem dd_M_rank_50 : decode bc_M_rank 50 = .ok (.iadd, 1) := by decide +kernel
theorem dd_M_rank_51 : decode bc_M_rank 51 = .ok (.istore_n 3, 1) := by decide +kernel
theorem dd_M_rank_52 : decode bc_M_rank 52 = .ok (.iinc 4 1, 3) := by decide +kernel
theorem dd_M_rank_55 : decode bc_M_rank 55 = .ok (.goto (-36), 3) := by decide +kernel
theorem dd_M_rank_58 : decode bc_M_rank 58 = .ok (.iload_n 1, 1) := by decide +kernel
theorem dd_M_rank_59 : decode bc_M_rank 59 = .ok (.aload_n 0, 1) := by decide +kernel
theorem dd_M_rank_60 : decode bc_M_rank 60 = .ok (.invokevirtual 72, 3) := by decide +kernel
theorem dd_M_rank_63 : decode bc_M_rank 63 = .ok (.iload_n 2, 1) := by decide +kernel
theorem dd_M_rank_64 : decode bc_M_rank 64 = .ok (.isub, 1) := by decide +kernel
theorem dd_M_rank_65 : decode bc_M_rank 65 = .ok (.imul, 1) := by decide +kernel
theorem dd_M_rank_66 : decode bc_M_rank 66 = .ok (.iload_n 3, 1) := by decide +kernel
theorem dd_M_rank_67 : decode bc_M_rank 67 = .ok (.iadd, 1) := by decide +kernel
theorem dd_M_rank_68 : decode bc_M_rank 68 = .ok (.istore_n 1, 1) := by decide +kernel
theorem dd_M_rank_69 : decode bc_M_rank 69 = .ok (.iinc 2 1, 3) := by decide +kernel
theorem dd_M_rank_72 : decode bc_M_rank 72 = .ok (.goto (-68), 3) := by decide +kernel
theorem dd_M_rank_75 : decode bc_M_rank 75 = .ok (.iload_n 1, 1) := by decide +kernel
theorem dd_M_rank_76 : decode bc_M_rank 76 = .ok (.ireturn, 1) := by decide +kernel
theorem dd_M_layRank_0 : decode bc_M_layRank 0 = .ok (.iload_n 1, 1) := by decide +kernel
theorem dd_M_layRank_1 : decode bc_M_layRank 1 = .ok (.istore_n 2, 1) := by decide +kernel
theorem dd_M_layRank_2 : decode bc_M_layRank 2 = .ok (.aload_n 0, 1) := by decide +kernel
theorem dd_M_layRank_3 : decode bc_M_layRank 3 = .ok (.invokevirtual 72, 3) := by decide +kernel
theorem dd_M_layRank_6 : decode bc_M_layRank 6 = .ok (.iconst 1, 1) := by decide +kernel
theorem dd_M_layRank_7 : decode bc_M_layRank 7 = .ok (.isub, 1) := by decide +kernel
theorem dd_M_layRank_8 : decode bc_M_layRank 8 = .ok (.istore_n 3, 1) := by decide +kernel
theorem dd_M_layRank_9 : decode bc_M_layRank 9 = .ok (.iload_n 3, 1) := by decide +kernel
theorem dd_M_layRank_10 : decode bc_M_layRank 10 = .ok (.ifCond .lt 39, 3) := by decide +kernel
theorem dd_M_layRank_13 : decode bc_M_layRank 13 = .ok (.aload_n 0, 1) := by decide +kernel
theorem dd_M_layRank_14 : decode bc_M_layRank 14 = .ok (.getfield 23, 3) := by decide +kernel
theorem dd_M_layRank_17 : decode bc_M_layRank 17 = .ok (.iload_n 3, 1) := by decide +kernel
theorem dd_M_layRank_18 : decode bc_M_layRank 18 = .ok (.iload_n 2, 1) := by decide +kernel
theorem dd_M_layRank_19 : decode bc_M_layRank 19 = .ok (.aload_n 0, 1) := by decide +kernel
theorem dd_M_layRank_20 : decode bc_M_layRank 20 = .ok (.invokevirtual 72, 3) := by decide +kernel
theorem dd_M_layRank_23 : decode bc_M_layRank 23 = .ok (.iload_n 3, 1) := by decide +kernel
theorem dd_M_layRank_24 : decode bc_M_layRank 24 = .ok (.isub, 1) := by decide +kernel
theorem dd_M_layRank_25 : decode bc_M_layRank 25 = .ok (.irem, 1) := by decide +kernel
theorem dd_M_layRank_26 : decode bc_M_layRank 26 = .ok (.iastore, 1) := by decide +kernel
theorem dd_M_layRank_27 : decode bc_M_layRank 27 = .ok (.iload_n 2, 1) := by decide +kernel
theorem dd_M_layRank_28 : decode bc_M_layRank 28 = .ok (.aload_n 0, 1) := by decide +kernel
theorem dd_M_layRank_29 : decode bc_M_layRank 29 = .ok (.invokevirtual 72, 3) := by decide +kernel
theorem dd_M_layRank_32 : decode bc_M_layRank 32 = .ok (.iload_n 3, 1) := by decide +kernel
theorem dd_M_layRank_33 : decode bc_M_layRank 33 = .ok (.isub, 1) := by decide +kernel
theorem dd_M_layRank_34 : decode bc_M_layRank 34 = .ok (.idiv, 1) := by decide +kernel
theorem dd_M_layRank_35 : decode bc_M_layRank 35 = .ok (.istore_n 2, 1) := by decide +kernel
theorem dd_M_layRank_36 : decode bc_M_layRank 36 = .ok (.aload_n 0, 1) := by decide +kernel
theorem dd_M_layRank_37 : decode bc_M_layRank 37 = .ok (.getfield 26, 3) := by decide +kernel
theorem dd_M_layRank_40 : decode bc_M_layRank 40 = .ok (.iload_n 3, 1) := by decide +kernel
theorem dd_M_layRank_41 : decode bc_M_layRank 41 = .ok (.iconst 0, 1) := by decide +kernel
theorem dd_M_layRank_42 : decode bc_M_layRank 42 = .ok (.bastore, 1) := by decide +kernel
theorem dd_M_layRank_43 : decode bc_M_layRank 43 = .ok (.iinc 3 (-1), 3) := by decide +kernel
theorem dd_M_layRank_46 : decode bc_M_layRank 46 = .ok (.goto (-37), 3) := by decide +kernel
theorem dd_M_layRank_49 : decode bc_M_layRank 49 = .ok (.iconst 0, 1) := by decide +kernel
theorem dd_M_layRank_50 : decode bc_M_layRank 50 = .ok (.istore_n 3, 1) := by decide +kernel
theorem dd_M_layRank_51 : decode bc_M_layRank 51 = .ok (.iload_n 3, 1) := by decide +kernel
theorem dd_M_layRank_52 : decode bc_M_layRank 52 = .ok (.aload_n 0, 1) := by decide +kernel
theorem dd_M_layRank_53 : decode bc_M_layRank 53 = .ok (.invokevirtual 72, 3) := by decide +kernel
theorem dd_M_layRank_56 : decode bc_M_layRank 56 = .ok (.if_icmp .ge 77, 3) := by decide +kernel
theorem dd_M_layRank_59 : decode bc_M_layRank 59 = .ok (.aload_n 0, 1) := by decide +kernel
theorem dd_M_layRank_60 : decode bc_M_layRank 60 = .ok (.getfield 23, 3) := by decide +kernel
theorem dd_M_layRank_63 : decode bc_M_layRank 63 = .ok (.iload_n 3, 1) := by decide +kernel
theorem dd_M_layRank_64 : decode bc_M_layRank 64 = .ok (.iaload, 1) := by decide +kernel
theorem dd_M_layRank_65 : decode bc_M_layRank 65 = .ok (.istore 4, 2) := by decide +kernel
theorem dd_M_layRank_67 : decode bc_M_layRank 67 = .ok (.iconst 0, 1) := by decide +kernel
theorem dd_M_layRank_68 : decode bc_M_layRank 68 = .ok (.istore 5, 2) := by decide +kernel
theorem dd_M_layRank_70 : decode bc_M_layRank 70 = .ok (.aload_n 0, 1) := by decide +kernel
theorem dd_M_layRank_71 : decode bc_M_layRank 71 = .ok (.getfield 26, 3) := by decide +kernel
theorem dd_M_layRank_74 : decode bc_M_layRank 74 = .ok (.iload 5, 2) := by decide +kernel
theorem dd_M_layRank_76 : decode bc_M_layRank 76 = .ok (.baload, 1) := by decide +kernel
theorem dd_M_layRank_77 : decode bc_M_layRank 77 = .ok (.ifCond .ne 8, 3) := by decide +kernel
theorem dd_M_layRank_80 : decode bc_M_layRank 80 = .ok (.iload 4, 2) := by decide +kernel
theorem dd_M_layRank_82 : decode bc_M_layRank 82 = .ok (.ifCond .le 29, 3) := by decide +kernel
theorem dd_M_layRank_85 : decode bc_M_layRank 85 = .ok (.iload 4, 2) := by decide +kernel
theorem dd_M_layRank_87 : decode bc_M_layRank 87 = .ok (.aload_n 0, 1) := by decide +kernel
theorem dd_M_layRank_88 : decode bc_M_layRank 88 = .ok (.getfield 26, 3) := by decide +kernel
theorem dd_M_layRank_91 : decode bc_M_layRank 91 = .ok (.iload 5, 2) := by decide +kernel
theorem dd_M_layRank_93 : decode bc_M_layRank 93 = .ok (.baload, 1) := by decide +kernel
theorem dd_M_layRank_94 : decode bc_M_layRank 94 = .ok (.ifCond .eq 7, 3) := by decide +kernel
theorem dd_M_layRank_97 : decode bc_M_layRank 97 = .ok (.iconst 0, 1) := by decide +kernel
theorem dd_M_layRank_98 : decode bc_M_layRank 98 = .ok (.goto 4, 3) := by decide +kernel
theorem dd_M_layRank_101 : decode bc_M_layRank 101 = .ok (.iconst 1, 1) := by decide +kernel
theorem dd_M_layRank_102 : decode bc_M_layRank 102 = .ok (.isub, 1) := by decide +kernel
theorem dd_M_layRank_103 : decode bc_M_layRank 103 = .ok (.istore 4, 2) := by decide +kernel
theorem dd_M_layRank_105 : decode bc_M_layRank 105 = .ok (.iinc 5 1, 3) := by decide +kernel
theorem dd_M_layRank_108 : decode bc_M_layRank 108 = .ok (.goto (-38), 3) := by decide +kernel
theorem dd_M_layRank_111 : decode bc_M_layRank 111 = .ok (.aload_n 0, 1) := by decide +kernel
theorem dd_M_layRank_112 : decode bc_M_layRank 112 = .ok (.getfield 26, 3) := by decide +kernel
theorem dd_M_layRank_115 : decode bc_M_layRank 115 = .ok (.iload 5, 2) := by decide +kernel
theorem dd_M_layRank_117 : decode bc_M_layRank 117 = .ok (.iconst 1, 1) := by decide +kernel
theorem dd_M_layRank_118 : decode bc_M_layRank 118 = .ok (.bastore, 1) := by decide +kernel
theorem dd_M_layRank_119 : decode bc_M_layRank 119 = .ok (.aload_n 0, 1) := by decide +kernel
theorem dd_M_layRank_120 : decode bc_M_layRank 120 = .ok (.getfield 23, 3) := by decide +kernel
theorem dd_M_layRank_123 : decode bc_M_layRank 123 = .ok (.iload_n 3, 1) := by decide +kernel
theorem dd_M_layRank_124 : decode bc_M_layRank 124 = .ok (.iload 5, 2) := by decide +kernel
theorem dd_M_layRank_126 : decode bc_M_layRank 126 = .ok (.iastore, 1) := by decide +kernel
theorem dd_M_layRank_127 : decode bc_M_layRank 127 = .ok (.iinc 3 1, 3) := by decide +kernel
theorem dd_M_layRank_130 : decode bc_M_layRank 130 = .ok (.goto (-79), 3) := by decide +kernel
theorem dd_M_layRank_133 : decode bc_M_layRank 133 = .ok (.return_, 1) := by decide +kernel
theorem dd_M_beginGroup_0 : decode bc_M_beginGroup 0 = .ok (.aload_n 0, 1) := by decide +kernel
theorem dd_M_beginGroup_1 : decode bc_M_beginGroup 1 = .ok (.iconst 0, 1) := by decide +kernel
theorem dd_M_beginGroup_2 : decode bc_M_beginGroup 2 = .ok (.putfield 76, 3) := by decide +kernel
theorem dd_M_beginGroup_5 : decode bc_M_beginGroup 5 = .ok (.return_, 1) := by decide +kernel
theorem dd_M_addMaker_0 : decode bc_M_addMaker 0 = .ok (.iconst 0, 1) := by decide +kernel
theorem dd_M_addMaker_1 : decode bc_M_addMaker 1 = .ok (.istore_n 1, 1) := by decide +kernel
theorem dd_M_addMaker_2 : decode bc_M_addMaker 2 = .ok (.iload_n 1, 1) := by decide +kernel
theorem dd_M_addMaker_3 : decode bc_M_addMaker 3 = .ok (.aload_n 0, 1) := by decide +kernel
theorem dd_M_addMaker_4 : decode bc_M_addMaker 4 = .ok (.invokevirtual 72, 3) := by decide +kernel
theorem dd_M_addMaker_7 : decode bc_M_addMaker 7 = .ok (.if_icmp .ge 29, 3) := by decide +kernel
theorem dd_M_addMaker_10 : decode bc_M_addMaker 10 = .ok (.aload_n 0, 1) := by decide +kernel
theorem dd_M_addMaker_11 : decode bc_M_addMaker 11 = .ok (.getfield 29, 3) := by decide +kernel
theorem dd_M_addMaker_14 : decode bc_M_addMaker 14 = .ok (.bipush 7, 2) := by decide +kernel
theorem dd_M_addMaker_16 : decode bc_M_addMaker 16 = .ok (.aload_n 0, 1) := by decide +kernel
theorem dd_M_addMaker_17 : decode bc_M_addMaker 17 = .ok (.getfield 76, 3) := by decide +kernel
theorem dd_M_addMaker_20 : decode bc_M_addMaker 20 = .ok (.imul, 1) := by decide +kernel
theorem dd_M_addMaker_21 : decode bc_M_addMaker 21 = .ok (.iload_n 1, 1) := by decide +kernel
theorem dd_M_addMaker_22 : decode bc_M_addMaker 22 = .ok (.iadd, 1) := by decide +kernel
theorem dd_M_addMaker_23 : decode bc_M_addMaker 23 = .ok (.aload_n 0, 1) := by decide +kernel
theorem dd_M_addMaker_24 : decode bc_M_addMaker 24 = .ok (.getfield 23, 3) := by decide +kernel
theorem dd_M_addMaker_27 : decode bc_M_addMaker 27 = .ok (.iload_n 1, 1) := by decide +kernel
theorem dd_M_addMaker_28 : decode bc_M_addMaker 28 = .ok (.iaload, 1) := by decide +kernel
theorem dd_M_addMaker_29 : decode bc_M_addMaker 29 = .ok (.iastore, 1) := by decide +kernel
theorem dd_M_addMaker_30 : decode bc_M_addMaker 30 = .ok (.iinc 1 1, 3) := by decide +kernel
theorem dd_M_addMaker_33 : decode bc_M_addMaker 33 = .ok (.goto (-31), 3) := by decide +kernel
theorem dd_M_addMaker_36 : decode bc_M_addMaker 36 = .ok (.aload_n 0, 1) := by decide +kernel
theorem dd_M_addMaker_37 : decode bc_M_addMaker 37 = .ok (.dup, 1) := by decide +kernel
theorem dd_M_addMaker_38 : decode bc_M_addMaker 38 = .ok (.getfield 76, 3) := by decide +kernel
theorem dd_M_addMaker_41 : decode bc_M_addMaker 41 = .ok (.iconst 1, 1) := by decide +kernel
theorem dd_M_addMaker_42 : decode bc_M_addMaker 42 = .ok (.iadd, 1) := by decide +kernel
theorem dd_M_addMaker_43 : decode bc_M_addMaker 43 = .ok (.putfield 76, 3) := by decide +kernel
theorem dd_M_addMaker_46 : decode bc_M_addMaker 46 = .ok (.return_, 1) := by decide +kernel
theorem dd_M_layStill_0 : decode bc_M_layStill 0 = .ok (.iconst 0, 1) := by decide +kernel
theorem dd_M_layStill_1 : decode bc_M_layStill 1 = .ok (.istore_n 1, 1) := by decide +kernel
theorem dd_M_layStill_2 : decode bc_M_layStill 2 = .ok (.iload_n 1, 1) := by decide +kernel
theorem dd_M_layStill_3 : decode bc_M_layStill 3 = .ok (.aload_n 0, 1) := by decide +kernel
theorem dd_M_layStill_4 : decode bc_M_layStill 4 = .ok (.invokevirtual 72, 3) := by decide +kernel
theorem dd_M_layStill_7 : decode bc_M_layStill 7 = .ok (.if_icmp .ge 16, 3) := by decide +kernel
theorem dd_M_layStill_10 : decode bc_M_layStill 10 = .ok (.aload_n 0, 1) := by decide +kernel
theorem dd_M_layStill_11 : decode bc_M_layStill 11 = .ok (.getfield 23, 3) := by decide +kernel
theorem dd_M_layStill_14 : decode bc_M_layStill 14 = .ok (.iload_n 1, 1) := by decide +kernel
theorem dd_M_layStill_15 : decode bc_M_layStill 15 = .ok (.iload_n 1, 1) := by decide +kernel
theorem dd_M_layStill_16 : decode bc_M_layStill 16 = .ok (.iastore, 1) := by decide +kernel
theorem dd_M_layStill_17 : decode bc_M_layStill 17 = .ok (.iinc 1 1, 3) := by decide +kernel
theorem dd_M_layStill_20 : decode bc_M_layStill 20 = .ok (.goto (-18), 3) := by decide +kernel
theorem dd_M_layStill_23 : decode bc_M_layStill 23 = .ok (.return_, 1) := by decide +kernel
theorem dd_M_meet_0 : decode bc_M_meet 0 = .ok (.aload_n 0, 1) := by decide +kernel
theorem dd_M_meet_1 : decode bc_M_meet 1 = .ok (.getfield 7, 3) := by decide +kernel
theorem dd_M_meet_4 : decode bc_M_meet 4 = .ok (.bipush 6, 2) := by decide +kernel
theorem dd_M_meet_6 : decode bc_M_meet 6 = .ok (.iload_n 1, 1) := by decide +kernel
theorem dd_M_meet_7 : decode bc_M_meet 7 = .ok (.iadd, 1) := by decide +kernel
theorem dd_M_meet_8 : decode bc_M_meet 8 = .ok (.iaload, 1) := by decide +kernel
theorem dd_M_meet_9 : decode bc_M_meet 9 = .ok (.ifCond .ne 33, 3) := by decide +kernel
theorem dd_M_meet_12 : decode bc_M_meet 12 = .ok (.aload_n 0, 1) := by decide +kernel
theorem dd_M_meet_13 : decode bc_M_meet 13 = .ok (.getfield 7, 3) := by decide +kernel
theorem dd_M_meet_16 : decode bc_M_meet 16 = .ok (.bipush 6, 2) := by decide +kernel
theorem dd_M_meet_18 : decode bc_M_meet 18 = .ok (.iload_n 1, 1) := by decide +kernel
theorem dd_M_meet_19 : decode bc_M_meet 19 = .ok (.iadd, 1) := by decide +kernel
theorem dd_M_meet_20 : decode bc_M_meet 20 = .ok (.iconst 1, 1) := by decide +kernel
theorem dd_M_meet_21 : decode bc_M_meet 21 = .ok (.iastore, 1) := by decide +kernel
theorem dd_M_meet_22 : decode bc_M_meet 22 = .ok (.aload_n 0, 1) := by decide +kernel
theorem dd_M_meet_23 : decode bc_M_meet 23 = .ok (.getfield 32, 3) := by decide +kernel
theorem dd_M_meet_26 : decode bc_M_meet 26 = .ok (.aload_n 0, 1) := by decide +kernel
theorem dd_M_meet_27 : decode bc_M_meet 27 = .ok (.getfield 80, 3) := by decide +kernel
theorem dd_M_meet_30 : decode bc_M_meet 30 = .ok (.iload_n 1, 1) := by decide +kernel
theorem dd_M_meet_31 : decode bc_M_meet 31 = .ok (.iastore, 1) := by decide +kernel
theorem dd_M_meet_32 : decode bc_M_meet 32 = .ok (.aload_n 0, 1) := by decide +kernel
theorem dd_M_meet_33 : decode bc_M_meet 33 = .ok (.dup, 1) := by decide +kernel
theorem dd_M_meet_34 : decode bc_M_meet 34 = .ok (.getfield 80, 3) := by decide +kernel
theorem dd_M_meet_37 : decode bc_M_meet 37 = .ok (.iconst 1, 1) := by decide +kernel
theorem dd_M_meet_38 : decode bc_M_meet 38 = .ok (.iadd, 1) := by decide +kernel
theorem dd_M_meet_39 : decode bc_M_meet 39 = .ok (.putfield 80, 3) := by decide +kernel
theorem dd_M_meet_42 : decode bc_M_meet 42 = .ok (.return_, 1) := by decide +kernel
theorem dd_M_closeGroup_0 : decode bc_M_closeGroup 0 = .ok (.iconst 0, 1) := by decide +kernel
theorem dd_M_closeGroup_1 : decode bc_M_closeGroup 1 = .ok (.istore_n 1, 1) := by decide +kernel
theorem dd_M_closeGroup_2 : decode bc_M_closeGroup 2 = .ok (.iload_n 1, 1) := by decide +kernel
theorem dd_M_closeGroup_3 : decode bc_M_closeGroup 3 = .ok (.sipush 5040, 3) := by decide +kernel
theorem dd_M_closeGroup_6 : decode bc_M_closeGroup 6 = .ok (.if_icmp .ge 19, 3) := by decide +kernel
theorem dd_M_closeGroup_9 : decode bc_M_closeGroup 9 = .ok (.aload_n 0, 1) := by decide +kernel
theorem dd_M_closeGroup_10 : decode bc_M_closeGroup 10 = .ok (.getfield 7, 3) := by decide +kernel
theorem dd_M_closeGroup_13 : decode bc_M_closeGroup 13 = .ok (.bipush 6, 2) := by decide +kernel
theorem dd_M_closeGroup_15 : decode bc_M_closeGroup 15 = .ok (.iload_n 1, 1) := by decide +kernel
theorem dd_M_closeGroup_16 : decode bc_M_closeGroup 16 = .ok (.iadd, 1) := by decide +kernel
theorem dd_M_closeGroup_17 : decode bc_M_closeGroup 17 = .ok (.iconst 0, 1) := by decide +kernel
theorem dd_M_closeGroup_18 : decode bc_M_closeGroup 18 = .ok (.iastore, 1) := by decide +kernel
theorem dd_M_closeGroup_19 : decode bc_M_closeGroup 19 = .ok (.iinc 1 1, 3) := by decide +kernel
theorem dd_M_closeGroup_22 : decode bc_M_closeGroup 22 = .ok (.goto (-20), 3) := by decide +kernel
theorem dd_M_closeGroup_25 : decode bc_M_closeGroup 25 = .ok (.aload_n 0, 1) := by decide +kernel
theorem dd_M_closeGroup_26 : decode bc_M_closeGroup 26 = .ok (.iconst 0, 1) := by decide +kernel
theorem dd_M_closeGroup_27 : decode bc_M_closeGroup 27 = .ok (.putfield 80, 3) := by decide +kernel
theorem dd_M_closeGroup_30 : decode bc_M_closeGroup 30 = .ok (.aload_n 0, 1) := by decide +kernel
theorem dd_M_closeGroup_31 : decode bc_M_closeGroup 31 = .ok (.invokevirtual 83, 3) := by decide +kernel
theorem dd_M_closeGroup_34 : decode bc_M_closeGroup 34 = .ok (.aload_n 0, 1) := by decide +kernel
theorem dd_M_closeGroup_35 : decode bc_M_closeGroup 35 = .ok (.aload_n 0, 1) := by decide +kernel
theorem dd_M_closeGroup_36 : decode bc_M_closeGroup 36 = .ok (.invokevirtual 86, 3) := by decide +kernel
theorem dd_M_closeGroup_39 : decode bc_M_closeGroup 39 = .ok (.invokevirtual 89, 3) := by decide +kernel
theorem dd_M_closeGroup_42 : decode bc_M_closeGroup 42 = .ok (.iconst 0, 1) := by decide +kernel
theorem dd_M_closeGroup_43 : decode bc_M_closeGroup 43 = .ok (.istore_n 1, 1) := by decide +kernel
theorem dd_M_closeGroup_44 : decode bc_M_closeGroup 44 = .ok (.iload_n 1, 1) := by decide +kernel
theorem dd_M_closeGroup_45 : decode bc_M_closeGroup 45 = .ok (.aload_n 0, 1) := by decide +kernel
theorem dd_M_closeGroup_46 : decode bc_M_closeGroup 46 = .ok (.getfield 80, 3) := by decide +kernel
theorem dd_M_closeGroup_49 : decode bc_M_closeGroup 49 = .ok (.if_icmp .ge 81, 3) := by decide +kernel
theorem dd_M_closeGroup_52 : decode bc_M_closeGroup 52 = .ok (.iconst 0, 1) := by decide +kernel
theorem dd_M_closeGroup_53 : decode bc_M_closeGroup 53 = .ok (.istore_n 2, 1) := by decide +kernel
theorem dd_M_closeGroup_54 : decode bc_M_closeGroup 54 = .ok (.iload_n 2, 1) := by decide +kernel
theorem dd_M_closeGroup_55 : decode bc_M_closeGroup 55 = .ok (.aload_n 0, 1) := by decide +kernel
theorem dd_M_closeGroup_56 : decode bc_M_closeGroup 56 = .ok (.getfield 76, 3) := by decide +kernel
theorem dd_M_closeGroup_59 : decode bc_M_closeGroup 59 = .ok (.if_icmp .ge 65, 3) := by decide +kernel
theorem dd_M_closeGroup_62 : decode bc_M_closeGroup 62 = .ok (.aload_n 0, 1) := by decide +kernel
theorem dd_M_closeGroup_63 : decode bc_M_closeGroup 63 = .ok (.aload_n 0, 1) := by decide +kernel
theorem dd_M_closeGroup_64 : decode bc_M_closeGroup 64 = .ok (.getfield 32, 3) := by decide +kernel
theorem dd_M_closeGroup_67 : decode bc_M_closeGroup 67 = .ok (.iload_n 1, 1) := by decide +kernel
theorem dd_M_closeGroup_68 : decode bc_M_closeGroup 68 = .ok (.iaload, 1) := by decide +kernel
theorem dd_M_closeGroup_69 : decode bc_M_closeGroup 69 = .ok (.invokevirtual 93, 3) := by decide +kernel
theorem dd_M_closeGroup_72 : decode bc_M_closeGroup 72 = .ok (.iconst 0, 1) := by decide +kernel
theorem dd_M_closeGroup_73 : decode bc_M_closeGroup 73 = .ok (.istore_n 3, 1) := by decide +kernel
theorem dd_M_closeGroup_74 : decode bc_M_closeGroup 74 = .ok (.iload_n 3, 1) := by decide +kernel
theorem dd_M_closeGroup_75 : decode bc_M_closeGroup 75 = .ok (.aload_n 0, 1) := by decide +kernel
theorem dd_M_closeGroup_76 : decode bc_M_closeGroup 76 = .ok (.invokevirtual 72, 3) := by decide +kernel
theorem dd_M_closeGroup_79 : decode bc_M_closeGroup 79 = .ok (.if_icmp .ge 31, 3) := by decide +kernel
theorem dd_M_closeGroup_82 : decode bc_M_closeGroup 82 = .ok (.aload_n 0, 1) := by decide +kernel
theorem dd_M_closeGroup_83 : decode bc_M_closeGroup 83 = .ok (.getfield 23, 3) := by decide +kernel
theorem dd_M_closeGroup_86 : decode bc_M_closeGroup 86 = .ok (.iload_n 3, 1) := by decide +kernel
theorem dd_M_closeGroup_87 : decode bc_M_closeGroup 87 = .ok (.aload_n 0, 1) := by decide +kernel
theorem dd_M_closeGroup_88 : decode bc_M_closeGroup 88 = .ok (.getfield 29, 3) := by decide +kernel
theorem dd_M_closeGroup_91 : decode bc_M_closeGroup 91 = .ok (.bipush 7, 2) := by decide +kernel
theorem dd_M_closeGroup_93 : decode bc_M_closeGroup 93 = .ok (.iload_n 2, 1) := by decide +kernel
theorem dd_M_closeGroup_94 : decode bc_M_closeGroup 94 = .ok (.imul, 1) := by decide +kernel
theorem dd_M_closeGroup_95 : decode bc_M_closeGroup 95 = .ok (.aload_n 0, 1) := by decide +kernel
theorem dd_M_closeGroup_96 : decode bc_M_closeGroup 96 = .ok (.getfield 23, 3) := by decide +kernel
theorem dd_M_closeGroup_99 : decode bc_M_closeGroup 99 = .ok (.iload_n 3, 1) := by decide +kernel
theorem dd_M_closeGroup_100 : decode bc_M_closeGroup 100 = .ok (.iaload, 1) := by decide +kernel
theorem dd_M_closeGroup_101 : decode bc_M_closeGroup 101 = .ok (.iadd, 1) := by decide +kernel
theorem dd_M_closeGroup_102 : decode bc_M_closeGroup 102 = .ok (.iaload, 1) := by decide +kernel
theorem dd_M_closeGroup_103 : decode bc_M_closeGroup 103 = .ok (.iastore, 1) := by decide +kernel
theorem dd_M_closeGroup_104 : decode bc_M_closeGroup 104 = .ok (.iinc 3 1, 3) := by decide +kernel
theorem dd_M_closeGroup_107 : decode bc_M_closeGroup 107 = .ok (.goto (-33), 3) := by decide +kernel
theorem dd_M_closeGroup_110 : decode bc_M_closeGroup 110 = .ok (.aload_n 0, 1) := by decide +kernel
theorem dd_M_closeGroup_111 : decode bc_M_closeGroup 111 = .ok (.aload_n 0, 1) := by decide +kernel
theorem dd_M_closeGroup_112 : decode bc_M_closeGroup 112 = .ok (.invokevirtual 86, 3) := by decide +kernel
theorem dd_M_closeGroup_115 : decode bc_M_closeGroup 115 = .ok (.invokevirtual 89, 3) := by decide +kernel
theorem dd_M_closeGroup_118 : decode bc_M_closeGroup 118 = .ok (.iinc 2 1, 3) := by decide +kernel
theorem dd_M_closeGroup_121 : decode bc_M_closeGroup 121 = .ok (.goto (-67), 3) := by decide +kernel
theorem dd_M_closeGroup_124 : decode bc_M_closeGroup 124 = .ok (.iinc 1 1, 3) := by decide +kernel
theorem dd_M_closeGroup_127 : decode bc_M_closeGroup 127 = .ok (.goto (-83), 3) := by decide +kernel
theorem dd_M_closeGroup_130 : decode bc_M_closeGroup 130 = .ok (.aload_n 0, 1) := by decide +kernel
theorem dd_M_closeGroup_131 : decode bc_M_closeGroup 131 = .ok (.invokevirtual 96, 3) := by decide +kernel
theorem dd_M_closeGroup_134 : decode bc_M_closeGroup 134 = .ok (.return_, 1) := by decide +kernel
theorem dd_M_layTurns_0 : decode bc_M_layTurns 0 = .ok (.aload_n 0, 1) := by decide +kernel
theorem dd_M_layTurns_1 : decode bc_M_layTurns 1 = .ok (.iconst 0, 1) := by decide +kernel
theorem dd_M_layTurns_2 : decode bc_M_layTurns 2 = .ok (.putfield 99, 3) := by decide +kernel
theorem dd_M_layTurns_5 : decode bc_M_layTurns 5 = .ok (.iconst 0, 1) := by decide +kernel
theorem dd_M_layTurns_6 : decode bc_M_layTurns 6 = .ok (.istore_n 1, 1) := by decide +kernel
theorem dd_M_layTurns_7 : decode bc_M_layTurns 7 = .ok (.iload_n 1, 1) := by decide +kernel
theorem dd_M_layTurns_8 : decode bc_M_layTurns 8 = .ok (.sipush 5040, 3) := by decide +kernel
theorem dd_M_layTurns_11 : decode bc_M_layTurns 11 = .ok (.if_icmp .ge 73, 3) := by decide +kernel
theorem dd_M_layTurns_14 : decode bc_M_layTurns 14 = .ok (.aload_n 0, 1) := by decide +kernel
theorem dd_M_layTurns_15 : decode bc_M_layTurns 15 = .ok (.getfield 7, 3) := by decide +kernel
theorem dd_M_layTurns_18 : decode bc_M_layTurns 18 = .ok (.bipush 6, 2) := by decide +kernel
theorem dd_M_layTurns_20 : decode bc_M_layTurns 20 = .ok (.iload_n 1, 1) := by decide +kernel
theorem dd_M_layTurns_21 : decode bc_M_layTurns 21 = .ok (.iadd, 1) := by decide +kernel
theorem dd_M_layTurns_22 : decode bc_M_layTurns 22 = .ok (.iaload, 1) := by decide +kernel
theorem dd_M_layTurns_23 : decode bc_M_layTurns 23 = .ok (.iconst 1, 1) := by decide +kernel
theorem dd_M_layTurns_24 : decode bc_M_layTurns 24 = .ok (.if_icmp .ne 54, 3) := by decide +kernel
theorem dd_M_layTurns_27 : decode bc_M_layTurns 27 = .ok (.aload_n 0, 1) := by decide +kernel
theorem dd_M_layTurns_28 : decode bc_M_layTurns 28 = .ok (.iload_n 1, 1) := by decide +kernel
theorem dd_M_layTurns_29 : decode bc_M_layTurns 29 = .ok (.invokevirtual 93, 3) := by decide +kernel
theorem dd_M_layTurns_32 : decode bc_M_layTurns 32 = .ok (.iconst 0, 1) := by decide +kernel
theorem dd_M_layTurns_33 : decode bc_M_layTurns 33 = .ok (.istore_n 2, 1) := by decide +kernel
theorem dd_M_layTurns_34 : decode bc_M_layTurns 34 = .ok (.iload_n 2, 1) := by decide +kernel
theorem dd_M_layTurns_35 : decode bc_M_layTurns 35 = .ok (.aload_n 0, 1) := by decide +kernel
theorem dd_M_layTurns_36 : decode bc_M_layTurns 36 = .ok (.invokevirtual 72, 3) := by decide +kernel
theorem dd_M_layTurns_39 : decode bc_M_layTurns 39 = .ok (.if_icmp .ge 29, 3) := by decide +kernel
theorem dd_M_layTurns_42 : decode bc_M_layTurns 42 = .ok (.aload_n 0, 1) := by decide +kernel
theorem dd_M_layTurns_43 : decode bc_M_layTurns 43 = .ok (.getfield 36, 3) := by decide +kernel
theorem dd_M_layTurns_46 : decode bc_M_layTurns 46 = .ok (.bipush 7, 2) := by decide +kernel
theorem dd_M_layTurns_48 : decode bc_M_layTurns 48 = .ok (.aload_n 0, 1) := by decide +kernel
theorem dd_M_layTurns_49 : decode bc_M_layTurns 49 = .ok (.getfield 99, 3) := by decide +kernel
theorem dd_M_layTurns_52 : decode bc_M_layTurns 52 = .ok (.imul, 1) := by decide +kernel
theorem dd_M_layTurns_53 : decode bc_M_layTurns 53 = .ok (.iload_n 2, 1) := by decide +kernel
theorem dd_M_layTurns_54 : decode bc_M_layTurns 54 = .ok (.iadd, 1) := by decide +kernel
theorem dd_M_layTurns_55 : decode bc_M_layTurns 55 = .ok (.aload_n 0, 1) := by decide +kernel
theorem dd_M_layTurns_56 : decode bc_M_layTurns 56 = .ok (.getfield 23, 3) := by decide +kernel
theorem dd_M_layTurns_59 : decode bc_M_layTurns 59 = .ok (.iload_n 2, 1) := by decide +kernel
theorem dd_M_layTurns_60 : decode bc_M_layTurns 60 = .ok (.iaload, 1) := by decide +kernel
theorem dd_M_layTurns_61 : decode bc_M_layTurns 61 = .ok (.iastore, 1) := by decide +kernel
theorem dd_M_layTurns_62 : decode bc_M_layTurns 62 = .ok (.iinc 2 1, 3) := by decide +kernel
theorem dd_M_layTurns_65 : decode bc_M_layTurns 65 = .ok (.goto (-31), 3) := by decide +kernel
theorem dd_M_layTurns_68 : decode bc_M_layTurns 68 = .ok (.aload_n 0, 1) := by decide +kernel
theorem dd_M_layTurns_69 : decode bc_M_layTurns 69 = .ok (.dup, 1) := by decide +kernel
theorem dd_M_layTurns_70 : decode bc_M_layTurns 70 = .ok (.getfield 99, 3) := by decide +kernel
theorem dd_M_layTurns_73 : decode bc_M_layTurns 73 = .ok (.iconst 1, 1) := by decide +kernel
theorem dd_M_layTurns_74 : decode bc_M_layTurns 74 = .ok (.iadd, 1) := by decide +kernel
theorem dd_M_layTurns_75 : decode bc_M_layTurns 75 = .ok (.putfield 99, 3) := by decide +kernel
theorem dd_M_layTurns_78 : decode bc_M_layTurns 78 = .ok (.iinc 1 1, 3) := by decide +kernel
theorem dd_M_layTurns_81 : decode bc_M_layTurns 81 = .ok (.goto (-74), 3) := by decide +kernel
theorem dd_M_layTurns_84 : decode bc_M_layTurns 84 = .ok (.return_, 1) := by decide +kernel
theorem dd_M_points_0 : decode bc_M_points 0 = .ok (.iload_n 1, 1) := by decide +kernel
theorem dd_M_points_1 : decode bc_M_points 1 = .ok (.iconst 1, 1) := by decide +kernel
theorem dd_M_points_2 : decode bc_M_points 2 = .ok (.bipush 7, 2) := by decide +kernel
theorem dd_M_points_4 : decode bc_M_points 4 = .ok (.invokestatic 102, 3) := by decide +kernel
theorem dd_M_points_7 : decode bc_M_points 7 = .ok (.ifCond .ne 6, 3) := by decide +kernel
theorem dd_M_points_10 : decode bc_M_points 10 = .ok (.bipush (-2), 2) := by decide +kernel
theorem dd_M_points_12 : decode bc_M_points 12 = .ok (.ireturn, 1) := by decide +kernel
theorem dd_M_points_13 : decode bc_M_points 13 = .ok (.aload_n 0, 1) := by decide +kernel
theorem dd_M_points_14 : decode bc_M_points 14 = .ok (.invokevirtual 72, 3) := by decide +kernel
theorem dd_M_points_17 : decode bc_M_points 17 = .ok (.istore_n 2, 1) := by decide +kernel
theorem dd_M_points_18 : decode bc_M_points 18 = .ok (.aload_n 0, 1) := by decide +kernel
theorem dd_M_points_19 : decode bc_M_points 19 = .ok (.getfield 7, 3) := by decide +kernel
theorem dd_M_points_22 : decode bc_M_points 22 = .ok (.iconst 0, 1) := by decide +kernel
theorem dd_M_points_23 : decode bc_M_points 23 = .ok (.iload_n 1, 1) := by decide +kernel
theorem dd_M_points_24 : decode bc_M_points 24 = .ok (.iastore, 1) := by decide +kernel
theorem dd_M_points_25 : decode bc_M_points 25 = .ok (.aload_n 0, 1) := by decide +kernel
theorem dd_M_points_26 : decode bc_M_points 26 = .ok (.invokevirtual 66, 3) := by decide +kernel
theorem dd_M_points_29 : decode bc_M_points 29 = .ok (.aload_n 0, 1) := by decide +kernel
theorem dd_M_points_30 : decode bc_M_points 30 = .ok (.invokevirtual 69, 3) := by decide +kernel
theorem dd_M_points_33 : decode bc_M_points 33 = .ok (.iload_n 2, 1) := by decide +kernel
theorem dd_M_points_34 : decode bc_M_points 34 = .ok (.ireturn, 1) := by decide +kernel
theorem dd_M_isKind_0 : decode bc_M_isKind 0 = .ok (.iload_n 0, 1) := by decide +kernel
theorem dd_M_isKind_1 : decode bc_M_isKind 1 = .ok (.iconst 0, 1) := by decide +kernel
theorem dd_M_isKind_2 : decode bc_M_isKind 2 = .ok (.iconst 4, 1) := by decide +kernel
theorem dd_M_isKind_3 : decode bc_M_isKind 3 = .ok (.invokestatic 102, 3) := by decide +kernel
theorem dd_M_isKind_6 : decode bc_M_isKind 6 = .ok (.ireturn, 1) := by decide +kernel
theorem dd_M_bring_0 : decode bc_M_bring 0 = .ok (.iconst 0, 1) := by decide +kernel
theorem dd_M_bring_1 : decode bc_M_bring 1 = .ok (.istore 5, 2) := by decide +kernel
theorem dd_M_bring_3 : decode bc_M_bring 3 = .ok (.iload 5, 2) := by decide +kernel
theorem dd_M_bring_5 : decode bc_M_bring 5 = .ok (.iload_n 2, 1) := by decide +kernel
theorem dd_M_bring_6 : decode bc_M_bring 6 = .ok (.if_icmp .ge 31, 3) := by decide +kernel
theorem dd_M_bring_9 : decode bc_M_bring 9 = .ok (.aload_n 0, 1) := by decide +kernel
theorem dd_M_bring_10 : decode bc_M_bring 10 = .ok (.getfield 23, 3) := by decide +kernel
theorem dd_M_bring_13 : decode bc_M_bring 13 = .ok (.iload_n 1, 1) := by decide +kernel
theorem dd_M_bring_14 : decode bc_M_bring 14 = .ok (.iload_n 2, 1) := by decide +kernel
theorem dd_M_bring_15 : decode bc_M_bring 15 = .ok (.iload_n 3, 1) := by decide +kernel
theorem dd_M_bring_16 : decode bc_M_bring 16 = .ok (.imul, 1) := by decide +kernel
theorem dd_M_bring_17 : decode bc_M_bring 17 = .ok (.iadd, 1) := by decide +kernel
theorem dd_M_bring_18 : decode bc_M_bring 18 = .ok (.iload 5, 2) := by decide +kernel
theorem dd_M_bring_20 : decode bc_M_bring 20 = .ok (.iadd, 1) := by decide +kernel
theorem dd_M_bring_21 : decode bc_M_bring 21 = .ok (.iload_n 1, 1) := by decide +kernel
theorem dd_M_bring_22 : decode bc_M_bring 22 = .ok (.iload_n 2, 1) := by decide +kernel
theorem dd_M_bring_23 : decode bc_M_bring 23 = .ok (.iload 4, 2) := by decide +kernel
theorem dd_M_bring_25 : decode bc_M_bring 25 = .ok (.imul, 1) := by decide +kernel
theorem dd_M_bring_26 : decode bc_M_bring 26 = .ok (.iadd, 1) := by decide +kernel
theorem dd_M_bring_27 : decode bc_M_bring 27 = .ok (.iload 5, 2) := by decide +kernel
theorem dd_M_bring_29 : decode bc_M_bring 29 = .ok (.iadd, 1) := by decide +kernel
theorem dd_M_bring_30 : decode bc_M_bring 30 = .ok (.iastore, 1) := by decide +kernel
theorem dd_M_bring_31 : decode bc_M_bring 31 = .ok (.iinc 5 1, 3) := by decide +kernel
theorem dd_M_bring_34 : decode bc_M_bring 34 = .ok (.goto (-31), 3) := by decide +kernel
theorem dd_M_bring_37 : decode bc_M_bring 37 = .ok (.return_, 1) := by decide +kernel
theorem dd_M_addRound_0 : decode bc_M_addRound 0 = .ok (.aload_n 0, 1) := by decide +kernel
theorem dd_M_addRound_1 : decode bc_M_addRound 1 = .ok (.invokevirtual 83, 3) := by decide +kernel
theorem dd_M_addRound_4 : decode bc_M_addRound 4 = .ok (.iconst 0, 1) := by decide +kernel
theorem dd_M_addRound_5 : decode bc_M_addRound 5 = .ok (.istore 4, 2) := by decide +kernel
theorem dd_M_addRound_7 : decode bc_M_addRound 7 = .ok (.iload 4, 2) := by decide +kernel
theorem dd_M_addRound_9 : decode bc_M_addRound 9 = .ok (.iload_n 3, 1) := by decide +kernel
theorem dd_M_addRound_10 : decode bc_M_addRound 10 = .ok (.if_icmp .ge 23, 3) := by decide +kernel
theorem dd_M_addRound_13 : decode bc_M_addRound 13 = .ok (.aload_n 0, 1) := by decide +kernel
theorem dd_M_addRound_14 : decode bc_M_addRound 14 = .ok (.iload_n 1, 1) := by decide +kernel
theorem dd_M_addRound_15 : decode bc_M_addRound 15 = .ok (.iload_n 2, 1) := by decide +kernel
theorem dd_M_addRound_16 : decode bc_M_addRound 16 = .ok (.iload 4, 2) := by decide +kernel
theorem dd_M_addRound_18 : decode bc_M_addRound 18 = .ok (.iload 4, 2) := by decide +kernel
theorem dd_M_addRound_20 : decode bc_M_addRound 20 = .ok (.iconst 1, 1) := by decide +kernel
theorem dd_M_addRound_21 : decode bc_M_addRound 21 = .ok (.iadd, 1) := by decide +kernel
theorem dd_M_addRound_22 : decode bc_M_addRound 22 = .ok (.iload_n 3, 1) := by decide +kernel
theorem dd_M_addRound_23 : decode bc_M_addRound 23 = .ok (.irem, 1) := by decide +kernel
theorem dd_M_addRound_24 : decode bc_M_addRound 24 = .ok (.invokevirtual 106, 3) := by decide +kernel
theorem dd_M_addRound_27 : decode bc_M_addRound 27 = .ok (.iinc 4 1, 3) := by decide +kernel
theorem dd_M_addRound_30 : decode bc_M_addRound 30 = .ok (.goto (-23), 3) := by decide +kernel
theorem dd_M_addRound_33 : decode bc_M_addRound 33 = .ok (.aload_n 0, 1) := by decide +kernel
theorem dd_M_addRound_34 : decode bc_M_addRound 34 = .ok (.invokevirtual 110, 3) := by decide +kernel
theorem dd_M_addRound_37 : decode bc_M_addRound 37 = .ok (.return_, 1) := by decide +kernel
theorem dd_M_addFlip_0 : decode bc_M_addFlip 0 = .ok (.aload_n 0, 1) := by decide +kernel
theorem dd_M_addFlip_1 : decode bc_M_addFlip 1 = .ok (.invokevirtual 83, 3) := by decide +kernel
theorem dd_M_addFlip_4 : decode bc_M_addFlip 4 = .ok (.iconst 0, 1) := by decide +kernel
theorem dd_M_addFlip_5 : decode bc_M_addFlip 5 = .ok (.istore 4, 2) := by decide +kernel
theorem dd_M_addFlip_7 : decode bc_M_addFlip 7 = .ok (.iload 4, 2) := by decide +kernel
theorem dd_M_addFlip_9 : decode bc_M_addFlip 9 = .ok (.iload_n 3, 1) := by decide +kernel
theorem dd_M_addFlip_10 : decode bc_M_addFlip 10 = .ok (.if_icmp .ge 23, 3) := by decide +kernel
theorem dd_M_addFlip_13 : decode bc_M_addFlip 13 = .ok (.aload_n 0, 1) := by decide +kernel
theorem dd_M_addFlip_14 : decode bc_M_addFlip 14 = .ok (.iload_n 1, 1) := by decide +kernel
theorem dd_M_addFlip_15 : decode bc_M_addFlip 15 = .ok (.iload_n 2, 1) := by decide +kernel
theorem dd_M_addFlip_16 : decode bc_M_addFlip 16 = .ok (.iload 4, 2) := by decide +kernel
theorem dd_M_addFlip_18 : decode bc_M_addFlip 18 = .ok (.iload_n 3, 1) := by decide +kernel
theorem dd_M_addFlip_19 : decode bc_M_addFlip 19 = .ok (.iconst 1, 1) := by decide +kernel
theorem dd_M_addFlip_20 : decode bc_M_addFlip 20 = .ok (.isub, 1) := by decide +kernel
theorem dd_M_addFlip_21 : decode bc_M_addFlip 21 = .ok (.iload 4, 2) := by decide +kernel
theorem dd_M_addFlip_23 : decode bc_M_addFlip 23 = .ok (.isub, 1) := by decide +kernel
theorem dd_M_addFlip_24 : decode bc_M_addFlip 24 = .ok (.invokevirtual 106, 3) := by decide +kernel
theorem dd_M_addFlip_27 : decode bc_M_addFlip 27 = .ok (.iinc 4 1, 3) := by decide +kernel
theorem dd_M_addFlip_30 : decode bc_M_addFlip 30 = .ok (.goto (-23), 3) := by decide +kernel
theorem dd_M_addFlip_33 : decode bc_M_addFlip 33 = .ok (.aload_n 0, 1) := by decide +kernel
theorem dd_M_addFlip_34 : decode bc_M_addFlip 34 = .ok (.invokevirtual 110, 3) := by decide +kernel
theorem dd_M_addFlip_37 : decode bc_M_addFlip 37 = .ok (.return_, 1) := by decide +kernel
theorem dd_M_addNext_0 : decode bc_M_addNext 0 = .ok (.aload_n 0, 1) := by decide +kernel
theorem dd_M_addNext_1 : decode bc_M_addNext 1 = .ok (.invokevirtual 83, 3) := by decide +kernel
theorem dd_M_addNext_4 : decode bc_M_addNext 4 = .ok (.iconst 0, 1) := by decide +kernel
theorem dd_M_addNext_5 : decode bc_M_addNext 5 = .ok (.istore 5, 2) := by decide +kernel
theorem dd_M_addNext_7 : decode bc_M_addNext 7 = .ok (.iload 5, 2) := by decide +kernel
theorem dd_M_addNext_9 : decode bc_M_addNext 9 = .ok (.iload 4, 2) := by decide +kernel
theorem dd_M_addNext_11 : decode bc_M_addNext 11 = .ok (.if_icmp .ge 28, 3) := by decide +kernel
theorem dd_M_addNext_14 : decode bc_M_addNext 14 = .ok (.aload_n 0, 1) := by decide +kernel
theorem dd_M_addNext_15 : decode bc_M_addNext 15 = .ok (.iload_n 1, 1) := by decide +kernel
theorem dd_M_addNext_16 : decode bc_M_addNext 16 = .ok (.iload_n 2, 1) := by decide +kernel
theorem dd_M_addNext_17 : decode bc_M_addNext 17 = .ok (.iload_n 3, 1) := by decide +kernel
theorem dd_M_addNext_18 : decode bc_M_addNext 18 = .ok (.iload 5, 2) := by decide +kernel
theorem dd_M_addNext_20 : decode bc_M_addNext 20 = .ok (.iadd, 1) := by decide +kernel
theorem dd_M_addNext_21 : decode bc_M_addNext 21 = .ok (.iload_n 3, 1) := by decide +kernel
theorem dd_M_addNext_22 : decode bc_M_addNext 22 = .ok (.iload 5, 2) := by decide +kernel
theorem dd_M_addNext_24 : decode bc_M_addNext 24 = .ok (.iconst 1, 1) := by decide +kernel
theorem dd_M_addNext_25 : decode bc_M_addNext 25 = .ok (.iadd, 1) := by decide +kernel
theorem dd_M_addNext_26 : decode bc_M_addNext 26 = .ok (.iload 4, 2) := by decide +kernel
theorem dd_M_addNext_28 : decode bc_M_addNext 28 = .ok (.irem, 1) := by decide +kernel
theorem dd_M_addNext_29 : decode bc_M_addNext 29 = .ok (.iadd, 1) := by decide +kernel
theorem dd_M_addNext_30 : decode bc_M_addNext 30 = .ok (.invokevirtual 106, 3) := by decide +kernel
theorem dd_M_addNext_33 : decode bc_M_addNext 33 = .ok (.iinc 5 1, 3) := by decide +kernel
theorem dd_M_addNext_36 : decode bc_M_addNext 36 = .ok (.goto (-29), 3) := by decide +kernel
theorem dd_M_addNext_39 : decode bc_M_addNext 39 = .ok (.aload_n 0, 1) := by decide +kernel
theorem dd_M_addNext_40 : decode bc_M_addNext 40 = .ok (.invokevirtual 110, 3) := by decide +kernel
theorem dd_M_addNext_43 : decode bc_M_addNext 43 = .ok (.return_, 1) := by decide +kernel
theorem dd_M_addKind_0 : decode bc_M_addKind 0 = .ok (.iload 4, 2) := by decide +kernel
theorem dd_M_addKind_2 : decode bc_M_addKind 2 = .ok (.iconst 2, 1) := by decide +kernel
theorem dd_M_addKind_3 : decode bc_M_addKind 3 = .ok (.if_icmp .lt 7, 3) := by decide +kernel
theorem dd_M_addKind_6 : decode bc_M_addKind 6 = .ok (.iload_n 1, 1) := by decide +kernel
theorem dd_M_addKind_7 : decode bc_M_addKind 7 = .ok (.ifCond .ne 4, 3) := by decide +kernel
theorem dd_M_addKind_10 : decode bc_M_addKind 10 = .ok (.return_, 1) := by decide +kernel
theorem dd_M_addKind_11 : decode bc_M_addKind 11 = .ok (.iload_n 1, 1) := by decide +kernel
theorem dd_M_addKind_12 : decode bc_M_addKind 12 = .ok (.iconst 3, 1) := by decide +kernel
theorem dd_M_addKind_13 : decode bc_M_addKind 13 = .ok (.if_icmp .ge 11, 3) := by decide +kernel
theorem dd_M_addKind_16 : decode bc_M_addKind 16 = .ok (.aload_n 0, 1) := by decide +kernel
theorem dd_M_addKind_17 : decode bc_M_addKind 17 = .ok (.iload_n 2, 1) := by decide +kernel
theorem dd_M_addKind_18 : decode bc_M_addKind 18 = .ok (.iload_n 3, 1) := by decide +kernel
theorem dd_M_addKind_19 : decode bc_M_addKind 19 = .ok (.iload 4, 2) := by decide +kernel
theorem dd_M_addKind_21 : decode bc_M_addKind 21 = .ok (.invokevirtual 113, 3) := by decide +kernel
theorem dd_M_addKind_24 : decode bc_M_addKind 24 = .ok (.iload_n 1, 1) := by decide +kernel
theorem dd_M_addKind_25 : decode bc_M_addKind 25 = .ok (.iconst 2, 1) := by decide +kernel
theorem dd_M_addKind_26 : decode bc_M_addKind 26 = .ok (.if_icmp .ne 11, 3) := by decide +kernel
theorem dd_M_addKind_29 : decode bc_M_addKind 29 = .ok (.aload_n 0, 1) := by decide +kernel
theorem dd_M_addKind_30 : decode bc_M_addKind 30 = .ok (.iload_n 2, 1) := by decide +kernel
theorem dd_M_addKind_31 : decode bc_M_addKind 31 = .ok (.iload_n 3, 1) := by decide +kernel
theorem dd_M_addKind_32 : decode bc_M_addKind 32 = .ok (.iload 4, 2) := by decide +kernel
theorem dd_M_addKind_34 : decode bc_M_addKind 34 = .ok (.invokevirtual 117, 3) := by decide +kernel
theorem dd_M_addKind_37 : decode bc_M_addKind 37 = .ok (.iload_n 1, 1) := by decide +kernel
theorem dd_M_addKind_38 : decode bc_M_addKind 38 = .ok (.iconst 3, 1) := by decide +kernel
theorem dd_M_addKind_39 : decode bc_M_addKind 39 = .ok (.if_icmp .ne 7, 3) := by decide +kernel
theorem dd_M_addKind_42 : decode bc_M_addKind 42 = .ok (.iconst 3, 1) := by decide +kernel
theorem dd_M_addKind_43 : decode bc_M_addKind 43 = .ok (.goto 4, 3) := by decide +kernel
theorem dd_M_addKind_46 : decode bc_M_addKind 46 = .ok (.iconst 2, 1) := by decide +kernel
theorem dd_M_addKind_47 : decode bc_M_addKind 47 = .ok (.istore 5, 2) := by decide +kernel
theorem dd_M_addKind_49 : decode bc_M_addKind 49 = .ok (.iconst 0, 1) := by decide +kernel
theorem dd_M_addKind_50 : decode bc_M_addKind 50 = .ok (.istore 6, 2) := by decide +kernel
theorem dd_M_addKind_52 : decode bc_M_addKind 52 = .ok (.iload 6, 2) := by decide +kernel
theorem dd_M_addKind_54 : decode bc_M_addKind 54 = .ok (.iload 5, 2) := by decide +kernel
theorem dd_M_addKind_56 : decode bc_M_addKind 56 = .ok (.iadd, 1) := by decide +kernel
theorem dd_M_addKind_57 : decode bc_M_addKind 57 = .ok (.iload 4, 2) := by decide +kernel
theorem dd_M_addKind_59 : decode bc_M_addKind 59 = .ok (.if_icmp .gt 24, 3) := by decide +kernel
theorem dd_M_addKind_62 : decode bc_M_addKind 62 = .ok (.iload_n 1, 1) := by decide +kernel
theorem dd_M_addKind_63 : decode bc_M_addKind 63 = .ok (.iconst 2, 1) := by decide +kernel
theorem dd_M_addKind_64 : decode bc_M_addKind 64 = .ok (.if_icmp .le 19, 3) := by decide +kernel
theorem dd_M_addKind_67 : decode bc_M_addKind 67 = .ok (.aload_n 0, 1) := by decide +kernel
theorem dd_M_addKind_68 : decode bc_M_addKind 68 = .ok (.iload_n 2, 1) := by decide +kernel
theorem dd_M_addKind_69 : decode bc_M_addKind 69 = .ok (.iload_n 3, 1) := by decide +kernel
theorem dd_M_addKind_70 : decode bc_M_addKind 70 = .ok (.iload 6, 2) := by decide +kernel
theorem dd_M_addKind_72 : decode bc_M_addKind 72 = .ok (.iload 5, 2) := by decide +kernel
theorem dd_M_addKind_74 : decode bc_M_addKind 74 = .ok (.invokevirtual 120, 3) := by decide +kernel
theorem dd_M_addKind_77 : decode bc_M_addKind 77 = .ok (.iinc 6 1, 3) := by decide +kernel
theorem dd_M_addKind_80 : decode bc_M_addKind 80 = .ok (.goto (-28), 3) := by decide +kernel
theorem dd_M_addKind_83 : decode bc_M_addKind 83 = .ok (.return_, 1) := by decide +kernel
theorem dd_M_beside_0 : decode bc_M_beside 0 = .ok (.iload_n 1, 1) := by decide +kernel
theorem dd_M_beside_1 : decode bc_M_beside 1 = .ok (.iconst 0, 1) := by decide +kernel
theorem dd_M_beside_2 : decode bc_M_beside 2 = .ok (.aload_n 0, 1) := by decide +kernel
theorem dd_M_beside_3 : decode bc_M_beside 3 = .ok (.invokevirtual 72, 3) := by decide +kernel
theorem dd_M_beside_6 : decode bc_M_beside 6 = .ok (.invokestatic 102, 3) := by decide +kernel
theorem dd_M_beside_9 : decode bc_M_beside 9 = .ok (.ifCond .eq 17, 3) := by decide +kernel
theorem dd_M_beside_12 : decode bc_M_beside 12 = .ok (.iload_n 2, 1) := by decide +kernel
theorem dd_M_beside_13 : decode bc_M_beside 13 = .ok (.invokestatic 123, 3) := by decide +kernel
theorem dd_M_beside_16 : decode bc_M_beside 16 = .ok (.ifCond .eq 10, 3) := by decide +kernel
theorem dd_M_beside_19 : decode bc_M_beside 19 = .ok (.iload_n 3, 1) := by decide +kernel
theorem dd_M_beside_20 : decode bc_M_beside 20 = .ok (.invokestatic 123, 3) := by decide +kernel
theorem dd_M_beside_23 : decode bc_M_beside 23 = .ok (.ifCond .ne 6, 3) := by decide +kernel
theorem dd_M_beside_26 : decode bc_M_beside 26 = .ok (.bipush (-2), 2) := by decide +kernel
theorem dd_M_beside_28 : decode bc_M_beside 28 = .ok (.ireturn, 1) := by decide +kernel
theorem dd_M_beside_29 : decode bc_M_beside 29 = .ok (.aload_n 0, 1) := by decide +kernel
theorem dd_M_beside_30 : decode bc_M_beside 30 = .ok (.invokevirtual 66, 3) := by decide +kernel
theorem dd_M_beside_33 : decode bc_M_beside 33 = .ok (.aload_n 0, 1) := by decide +kernel
theorem dd_M_beside_34 : decode bc_M_beside 34 = .ok (.iload_n 2, 1) := by decide +kernel
theorem dd_M_beside_35 : decode bc_M_beside 35 = .ok (.iconst 0, 1) := by decide +kernel
theorem dd_M_beside_36 : decode bc_M_beside 36 = .ok (.iconst 1, 1) := by decide +kernel
theorem dd_M_beside_37 : decode bc_M_beside 37 = .ok (.iload_n 1, 1) := by decide +kernel
theorem dd_M_beside_38 : decode bc_M_beside 38 = .ok (.invokevirtual 127, 3) := by decide +kernel
theorem dd_M_beside_41 : decode bc_M_beside 41 = .ok (.aload_n 0, 1) := by decide +kernel
theorem dd_M_beside_42 : decode bc_M_beside 42 = .ok (.iload_n 3, 1) := by decide +kernel
theorem dd_M_beside_43 : decode bc_M_beside 43 = .ok (.iload_n 1, 1) := by decide +kernel
theorem dd_M_beside_44 : decode bc_M_beside 44 = .ok (.iconst 1, 1) := by decide +kernel
theorem dd_M_beside_45 : decode bc_M_beside 45 = .ok (.aload_n 0, 1) := by decide +kernel
theorem dd_M_beside_46 : decode bc_M_beside 46 = .ok (.invokevirtual 72, 3) := by decide +kernel
theorem dd_M_beside_49 : decode bc_M_beside 49 = .ok (.iload_n 1, 1) := by decide +kernel
theorem dd_M_beside_50 : decode bc_M_beside 50 = .ok (.isub, 1) := by decide +kernel
theorem dd_M_beside_51 : decode bc_M_beside 51 = .ok (.invokevirtual 127, 3) := by decide +kernel
theorem dd_M_beside_54 : decode bc_M_beside 54 = .ok (.aload_n 0, 1) := by decide +kernel
theorem dd_M_beside_55 : decode bc_M_beside 55 = .ok (.invokevirtual 69, 3) := by decide +kernel
theorem dd_M_beside_58 : decode bc_M_beside 58 = .ok (.aload_n 0, 1) := by decide +kernel
theorem dd_M_beside_59 : decode bc_M_beside 59 = .ok (.getfield 99, 3) := by decide +kernel
theorem dd_M_beside_62 : decode bc_M_beside 62 = .ok (.ireturn, 1) := by decide +kernel
theorem dd_M_blocks_0 : decode bc_M_blocks 0 = .ok (.iload_n 1, 1) := by decide +kernel
theorem dd_M_blocks_1 : decode bc_M_blocks 1 = .ok (.iconst 1, 1) := by decide +kernel
theorem dd_M_blocks_2 : decode bc_M_blocks 2 = .ok (.aload_n 0, 1) := by decide +kernel
theorem dd_M_blocks_3 : decode bc_M_blocks 3 = .ok (.invokevirtual 72, 3) := by decide +kernel
theorem dd_M_blocks_6 : decode bc_M_blocks 6 = .ok (.invokestatic 102, 3) := by decide +kernel
theorem dd_M_blocks_9 : decode bc_M_blocks 9 = .ok (.ifCond .eq 26, 3) := by decide +kernel
theorem dd_M_blocks_12 : decode bc_M_blocks 12 = .ok (.aload_n 0, 1) := by decide +kernel
theorem dd_M_blocks_13 : decode bc_M_blocks 13 = .ok (.invokevirtual 72, 3) := by decide +kernel
theorem dd_M_blocks_16 : decode bc_M_blocks 16 = .ok (.iload_n 1, 1) := by decide +kernel
theorem dd_M_blocks_17 : decode bc_M_blocks 17 = .ok (.irem, 1) := by decide +kernel
theorem dd_M_blocks_18 : decode bc_M_blocks 18 = .ok (.ifCond .ne 17, 3) := by decide +kernel
theorem dd_M_blocks_21 : decode bc_M_blocks 21 = .ok (.iload_n 2, 1) := by decide +kernel
theorem dd_M_blocks_22 : decode bc_M_blocks 22 = .ok (.invokestatic 123, 3) := by decide +kernel
theorem dd_M_blocks_25 : decode bc_M_blocks 25 = .ok (.ifCond .eq 10, 3) := by decide +kernel
theorem dd_M_blocks_28 : decode bc_M_blocks 28 = .ok (.iload_n 3, 1) := by decide +kernel
theorem dd_M_blocks_29 : decode bc_M_blocks 29 = .ok (.invokestatic 123, 3) := by decide +kernel
theorem dd_M_blocks_32 : decode bc_M_blocks 32 = .ok (.ifCond .ne 6, 3) := by decide +kernel
theorem dd_M_blocks_35 : decode bc_M_blocks 35 = .ok (.bipush (-2), 2) := by decide +kernel
theorem dd_M_blocks_37 : decode bc_M_blocks 37 = .ok (.ireturn, 1) := by decide +kernel
theorem dd_M_blocks_38 : decode bc_M_blocks 38 = .ok (.aload_n 0, 1) := by decide +kernel
theorem dd_M_blocks_39 : decode bc_M_blocks 39 = .ok (.invokevirtual 66, 3) := by decide +kernel
theorem dd_M_blocks_42 : decode bc_M_blocks 42 = .ok (.iconst 0, 1) := by decide +kernel
theorem dd_M_blocks_43 : decode bc_M_blocks 43 = .ok (.istore 4, 2) := by decide +kernel
theorem dd_M_blocks_45 : decode bc_M_blocks 45 = .ok (.iload 4, 2) := by decide +kernel
theorem dd_M_blocks_47 : decode bc_M_blocks 47 = .ok (.aload_n 0, 1) := by decide +kernel
theorem dd_M_blocks_48 : decode bc_M_blocks 48 = .ok (.invokevirtual 72, 3) := by decide +kernel
theorem dd_M_blocks_51 : decode bc_M_blocks 51 = .ok (.if_icmp .ge 21, 3) := by decide +kernel
theorem dd_M_blocks_54 : decode bc_M_blocks 54 = .ok (.aload_n 0, 1) := by decide +kernel
theorem dd_M_blocks_55 : decode bc_M_blocks 55 = .ok (.iload_n 2, 1) := by decide +kernel
theorem dd_M_blocks_56 : decode bc_M_blocks 56 = .ok (.iload 4, 2) := by decide +kernel
theorem dd_M_blocks_58 : decode bc_M_blocks 58 = .ok (.iconst 1, 1) := by decide +kernel
theorem dd_M_blocks_59 : decode bc_M_blocks 59 = .ok (.iload_n 1, 1) := by decide +kernel
theorem dd_M_blocks_60 : decode bc_M_blocks 60 = .ok (.invokevirtual 127, 3) := by decide +kernel
theorem dd_M_blocks_63 : decode bc_M_blocks 63 = .ok (.iload 4, 2) := by decide +kernel
theorem dd_M_blocks_65 : decode bc_M_blocks 65 = .ok (.iload_n 1, 1) := by decide +kernel
theorem dd_M_blocks_66 : decode bc_M_blocks 66 = .ok (.iadd, 1) := by decide +kernel
theorem dd_M_blocks_67 : decode bc_M_blocks 67 = .ok (.istore 4, 2) := by decide +kernel
theorem dd_M_blocks_69 : decode bc_M_blocks 69 = .ok (.goto (-24), 3) := by decide +kernel
theorem dd_M_blocks_72 : decode bc_M_blocks 72 = .ok (.aload_n 0, 1) := by decide +kernel
theorem dd_M_blocks_73 : decode bc_M_blocks 73 = .ok (.iload_n 3, 1) := by decide +kernel
theorem dd_M_blocks_74 : decode bc_M_blocks 74 = .ok (.iconst 0, 1) := by decide +kernel
theorem dd_M_blocks_75 : decode bc_M_blocks 75 = .ok (.iload_n 1, 1) := by decide +kernel
theorem dd_M_blocks_76 : decode bc_M_blocks 76 = .ok (.aload_n 0, 1) := by decide +kernel
theorem dd_M_blocks_77 : decode bc_M_blocks 77 = .ok (.invokevirtual 72, 3) := by decide +kernel
theorem dd_M_blocks_80 : decode bc_M_blocks 80 = .ok (.iload_n 1, 1) := by decide +kernel
theorem dd_M_blocks_81 : decode bc_M_blocks 81 = .ok (.idiv, 1) := by decide +kernel
theorem dd_M_blocks_82 : decode bc_M_blocks 82 = .ok (.invokevirtual 127, 3) := by decide +kernel
theorem dd_M_blocks_85 : decode bc_M_blocks 85 = .ok (.aload_n 0, 1) := by decide +kernel
theorem dd_M_blocks_86 : decode bc_M_blocks 86 = .ok (.invokevirtual 69, 3) := by decide +kernel
theorem dd_M_blocks_89 : decode bc_M_blocks 89 = .ok (.aload_n 0, 1) := by decide +kernel
theorem dd_M_blocks_90 : decode bc_M_blocks 90 = .ok (.getfield 99, 3) := by decide +kernel
theorem dd_M_blocks_93 : decode bc_M_blocks 93 = .ok (.ireturn, 1) := by decide +kernel
theorem dd_M_say_0 : decode bc_M_say 0 = .ok (.iload_n 1, 1) := by decide +kernel
theorem dd_M_say_1 : decode bc_M_say 1 = .ok (.bipush 33, 2) := by decide +kernel
theorem dd_M_say_3 : decode bc_M_say 3 = .ok (.bipush 126, 2) := by decide +kernel
theorem dd_M_say_5 : decode bc_M_say 5 = .ok (.invokestatic 102, 3) := by decide +kernel
theorem dd_M_say_8 : decode bc_M_say 8 = .ok (.ifCond .ne 6, 3) := by decide +kernel
theorem dd_M_say_11 : decode bc_M_say 11 = .ok (.bipush (-2), 2) := by decide +kernel
theorem dd_M_say_13 : decode bc_M_say 13 = .ok (.ireturn, 1) := by decide +kernel
theorem dd_M_say_14 : decode bc_M_say 14 = .ok (.aload_n 0, 1) := by decide +kernel
theorem dd_M_say_15 : decode bc_M_say 15 = .ok (.getfield 130, 3) := by decide +kernel
theorem dd_M_say_18 : decode bc_M_say 18 = .ok (.bipush 7, 2) := by decide +kernel
theorem dd_M_say_20 : decode bc_M_say 20 = .ok (.if_icmp .ne 6, 3) := by decide +kernel
theorem dd_M_say_23 : decode bc_M_say 23 = .ok (.bipush (-4), 2) := by decide +kernel
theorem dd_M_say_25 : decode bc_M_say 25 = .ok (.ireturn, 1) := by decide +kernel
theorem dd_M_say_26 : decode bc_M_say 26 = .ok (.aload_n 0, 1) := by decide +kernel
theorem dd_M_say_27 : decode bc_M_say 27 = .ok (.getfield 20, 3) := by decide +kernel
theorem dd_M_say_30 : decode bc_M_say 30 = .ok (.aload_n 0, 1) := by decide +kernel
theorem dd_M_say_31 : decode bc_M_say 31 = .ok (.getfield 130, 3) := by decide +kernel
theorem dd_M_say_34 : decode bc_M_say 34 = .ok (.iload_n 1, 1) := by decide +kernel
theorem dd_M_say_35 : decode bc_M_say 35 = .ok (.iastore, 1) := by decide +kernel
theorem dd_M_say_36 : decode bc_M_say 36 = .ok (.aload_n 0, 1) := by decide +kernel
theorem dd_M_say_37 : decode bc_M_say 37 = .ok (.dup, 1) := by decide +kernel
theorem dd_M_say_38 : decode bc_M_say 38 = .ok (.getfield 130, 3) := by decide +kernel
theorem dd_M_say_41 : decode bc_M_say 41 = .ok (.iconst 1, 1) := by decide +kernel
theorem dd_M_say_42 : decode bc_M_say 42 = .ok (.iadd, 1) := by decide +kernel
theorem dd_M_say_43 : decode bc_M_say 43 = .ok (.putfield 130, 3) := by decide +kernel
theorem dd_M_say_46 : decode bc_M_say 46 = .ok (.aload_n 0, 1) := by decide +kernel
theorem dd_M_say_47 : decode bc_M_say 47 = .ok (.getfield 130, 3) := by decide +kernel
theorem dd_M_say_50 : decode bc_M_say 50 = .ok (.ireturn, 1) := by decide +kernel
theorem dd_M_wipe_0 : decode bc_M_wipe 0 = .ok (.aload_n 0, 1) := by decide +kernel
theorem dd_M_wipe_1 : decode bc_M_wipe 1 = .ok (.getfield 130, 3) := by decide +kernel
theorem dd_M_wipe_4 : decode bc_M_wipe 4 = .ok (.istore_n 1, 1) := by decide +kernel
theorem dd_M_wipe_5 : decode bc_M_wipe 5 = .ok (.aload_n 0, 1) := by decide +kernel
theorem dd_M_wipe_6 : decode bc_M_wipe 6 = .ok (.iconst 0, 1) := by decide +kernel
theorem dd_M_wipe_7 : decode bc_M_wipe 7 = .ok (.putfield 130, 3) := by decide +kernel
theorem dd_M_wipe_10 : decode bc_M_wipe 10 = .ok (.iload_n 1, 1) := by decide +kernel
theorem dd_M_wipe_11 : decode bc_M_wipe 11 = .ok (.ireturn, 1) := by decide +kernel
theorem dd_M_layPad_0 : decode bc_M_layPad 0 = .ok (.iconst 0, 1) := by decide +kernel
theorem dd_M_layPad_1 : decode bc_M_layPad 1 = .ok (.istore_n 1, 1) := by decide +kernel
theorem dd_M_layPad_2 : decode bc_M_layPad 2 = .ok (.iconst 0, 1) := by decide +kernel
theorem dd_M_layPad_3 : decode bc_M_layPad 3 = .ok (.istore_n 2, 1) := by decide +kernel
theorem dd_M_layPad_4 : decode bc_M_layPad 4 = .ok (.iload_n 2, 1) := by decide +kernel
theorem dd_M_layPad_5 : decode bc_M_layPad 5 = .ok (.aload_n 0, 1) := by decide +kernel
theorem dd_M_layPad_6 : decode bc_M_layPad 6 = .ok (.getfield 130, 3) := by decide +kernel
theorem dd_M_layPad_9 : decode bc_M_layPad 9 = .ok (.if_icmp .ge 48, 3) := by decide +kernel
theorem dd_M_layPad_12 : decode bc_M_layPad 12 = .ok (.aload_n 0, 1) := by decide +kernel
theorem dd_M_layPad_13 : decode bc_M_layPad 13 = .ok (.getfield 20, 3) := by decide +kernel
theorem dd_M_layPad_16 : decode bc_M_layPad 16 = .ok (.iload_n 2, 1) := by decide +kernel
theorem dd_M_layPad_17 : decode bc_M_layPad 17 = .ok (.iaload, 1) := by decide +kernel
theorem dd_M_layPad_18 : decode bc_M_layPad 18 = .ok (.bipush 48, 2) := by decide +kernel
theorem dd_M_layPad_20 : decode bc_M_layPad 20 = .ok (.isub, 1) := by decide +kernel
theorem dd_M_layPad_21 : decode bc_M_layPad 21 = .ok (.istore_n 3, 1) := by decide +kernel
theorem dd_M_layPad_22 : decode bc_M_layPad 22 = .ok (.iload_n 3, 1) := by decide +kernel
theorem dd_M_layPad_23 : decode bc_M_layPad 23 = .ok (.iconst 0, 1) := by decide +kernel
theorem dd_M_layPad_24 : decode bc_M_layPad 24 = .ok (.aload_n 0, 1) := by decide +kernel
theorem dd_M_layPad_25 : decode bc_M_layPad 25 = .ok (.invokevirtual 72, 3) := by decide +kernel
theorem dd_M_layPad_28 : decode bc_M_layPad 28 = .ok (.iconst 1, 1) := by decide +kernel
theorem dd_M_layPad_29 : decode bc_M_layPad 29 = .ok (.isub, 1) := by decide +kernel
theorem dd_M_layPad_30 : decode bc_M_layPad 30 = .ok (.invokestatic 102, 3) := by decide +kernel
theorem dd_M_layPad_33 : decode bc_M_layPad 33 = .ok (.ifCond .ne 5, 3) := by decide +kernel
theorem dd_M_layPad_36 : decode bc_M_layPad 36 = .ok (.iconst 0, 1) := by decide +kernel
theorem dd_M_layPad_37 : decode bc_M_layPad 37 = .ok (.ireturn, 1) := by decide +kernel
theorem dd_M_layPad_38 : decode bc_M_layPad 38 = .ok (.aload_n 0, 1) := by decide +kernel
theorem dd_M_layPad_39 : decode bc_M_layPad 39 = .ok (.getfield 23, 3) := by decide +kernel
theorem dd_M_layPad_42 : decode bc_M_layPad 42 = .ok (.iload_n 2, 1) := by decide +kernel
theorem dd_M_layPad_43 : decode bc_M_layPad 43 = .ok (.iload_n 3, 1) := by decide +kernel
theorem dd_M_layPad_44 : decode bc_M_layPad 44 = .ok (.iastore, 1) := by decide +kernel
theorem dd_M_layPad_45 : decode bc_M_layPad 45 = .ok (.iload_n 1, 1) := by decide +kernel
theorem dd_M_layPad_46 : decode bc_M_layPad 46 = .ok (.iconst 1, 1) := by decide +kernel
theorem dd_M_layPad_47 : decode bc_M_layPad 47 = .ok (.iload_n 3, 1) := by decide +kernel
theorem dd_M_layPad_48 : decode bc_M_layPad 48 = .ok (.ishl, 1) := by decide +kernel
theorem dd_M_layPad_49 : decode bc_M_layPad 49 = .ok (.ior, 1) := by decide +kernel
theorem dd_M_layPad_50 : decode bc_M_layPad 50 = .ok (.istore_n 1, 1) := by decide +kernel
theorem dd_M_layPad_51 : decode bc_M_layPad 51 = .ok (.iinc 2 1, 3) := by decide +kernel
theorem dd_M_layPad_54 : decode bc_M_layPad 54 = .ok (.goto (-50), 3) := by decide +kernel
theorem dd_M_layPad_57 : decode bc_M_layPad 57 = .ok (.aload_n 0, 1) := by decide +kernel
theorem dd_M_layPad_58 : decode bc_M_layPad 58 = .ok (.getfield 130, 3) := by decide +kernel
theorem dd_M_layPad_61 : decode bc_M_layPad 61 = .ok (.aload_n 0, 1) := by decide +kernel
theorem dd_M_layPad_62 : decode bc_M_layPad 62 = .ok (.invokevirtual 72, 3) := by decide +kernel
theorem dd_M_layPad_65 : decode bc_M_layPad 65 = .ok (.if_icmp .ne 19, 3) := by decide +kernel
theorem dd_M_layPad_68 : decode bc_M_layPad 68 = .ok (.iload_n 1, 1) := by decide +kernel
theorem dd_M_layPad_69 : decode bc_M_layPad 69 = .ok (.iconst 1, 1) := by decide +kernel
theorem dd_M_layPad_70 : decode bc_M_layPad 70 = .ok (.aload_n 0, 1) := by decide +kernel
theorem dd_M_layPad_71 : decode bc_M_layPad 71 = .ok (.invokevirtual 72, 3) := by decide +kernel
theorem dd_M_layPad_74 : decode bc_M_layPad 74 = .ok (.ishl, 1) := by decide +kernel
theorem dd_M_layPad_75 : decode bc_M_layPad 75 = .ok (.iconst 1, 1) := by decide +kernel
theorem dd_M_layPad_76 : decode bc_M_layPad 76 = .ok (.isub, 1) := by decide +kernel
theorem dd_M_layPad_77 : decode bc_M_layPad 77 = .ok (.if_icmp .ne 7, 3) := by decide +kernel
theorem dd_M_layPad_80 : decode bc_M_layPad 80 = .ok (.iconst 1, 1) := by decide +kernel
theorem dd_M_layPad_81 : decode bc_M_layPad 81 = .ok (.goto 4, 3) := by decide +kernel
theorem dd_M_layPad_84 : decode bc_M_layPad 84 = .ok (.iconst 0, 1) := by decide +kernel
theorem dd_M_layPad_85 : decode bc_M_layPad 85 = .ok (.ireturn, 1) := by decide +kernel
theorem dd_M_join_0 : decode bc_M_join 0 = .ok (.aload_n 0, 1) := by decide +kernel
theorem dd_M_join_1 : decode bc_M_join 1 = .ok (.invokevirtual 133, 3) := by decide +kernel
theorem dd_M_join_4 : decode bc_M_join 4 = .ok (.ifCond .ne 6, 3) := by decide +kernel
theorem dd_M_join_7 : decode bc_M_join 7 = .ok (.bipush (-7), 2) := by decide +kernel
theorem dd_M_join_9 : decode bc_M_join 9 = .ok (.ireturn, 1) := by decide +kernel
theorem dd_M_join_10 : decode bc_M_join 10 = .ok (.aload_n 0, 1) := by decide +kernel
theorem dd_M_join_11 : decode bc_M_join 11 = .ok (.invokevirtual 86, 3) := by decide +kernel
theorem dd_M_join_14 : decode bc_M_join 14 = .ok (.istore_n 1, 1) := by decide +kernel
theorem dd_M_join_15 : decode bc_M_join 15 = .ok (.iconst 0, 1) := by decide +kernel
theorem dd_M_join_16 : decode bc_M_join 16 = .ok (.istore_n 2, 1) := by decide +kernel
theorem dd_M_join_17 : decode bc_M_join 17 = .ok (.iload_n 2, 1) := by decide +kernel
theorem dd_M_join_18 : decode bc_M_join 18 = .ok (.sipush 5040, 3) := by decide +kernel
theorem dd_M_join_21 : decode bc_M_join 21 = .ok (.if_icmp .ge 24, 3) := by decide +kernel
theorem dd_M_join_24 : decode bc_M_join 24 = .ok (.aload_n 0, 1) := by decide +kernel
theorem dd_M_join_25 : decode bc_M_join 25 = .ok (.getfield 39, 3) := by decide +kernel
theorem dd_M_join_28 : decode bc_M_join 28 = .ok (.iload_n 2, 1) := by decide +kernel
theorem dd_M_join_29 : decode bc_M_join 29 = .ok (.aload_n 0, 1) := by decide +kernel
theorem dd_M_join_30 : decode bc_M_join 30 = .ok (.getfield 7, 3) := by decide +kernel
theorem dd_M_join_33 : decode bc_M_join 33 = .ok (.bipush 6, 2) := by decide +kernel
theorem dd_M_join_35 : decode bc_M_join 35 = .ok (.iload_n 2, 1) := by decide +kernel
theorem dd_M_join_36 : decode bc_M_join 36 = .ok (.iadd, 1) := by decide +kernel
theorem dd_M_join_37 : decode bc_M_join 37 = .ok (.iaload, 1) := by decide +kernel
theorem dd_M_join_38 : decode bc_M_join 38 = .ok (.iastore, 1) := by decide +kernel
theorem dd_M_join_39 : decode bc_M_join 39 = .ok (.iinc 2 1, 3) := by decide +kernel
theorem dd_M_join_42 : decode bc_M_join 42 = .ok (.goto (-25), 3) := by decide +kernel
theorem dd_M_join_45 : decode bc_M_join 45 = .ok (.aload_n 0, 1) := by decide +kernel
theorem dd_M_join_46 : decode bc_M_join 46 = .ok (.invokevirtual 66, 3) := by decide +kernel
theorem dd_M_join_49 : decode bc_M_join 49 = .ok (.aload_n 0, 1) := by decide +kernel
theorem dd_M_join_50 : decode bc_M_join 50 = .ok (.iload_n 1, 1) := by decide +kernel
theorem dd_M_join_51 : decode bc_M_join 51 = .ok (.invokevirtual 93, 3) := by decide +kernel
theorem dd_M_join_54 : decode bc_M_join 54 = .ok (.aload_n 0, 1) := by decide +kernel
theorem dd_M_join_55 : decode bc_M_join 55 = .ok (.invokevirtual 110, 3) := by decide +kernel
theorem dd_M_join_58 : decode bc_M_join 58 = .ok (.aload_n 0, 1) := by decide +kernel
theorem dd_M_join_59 : decode bc_M_join 59 = .ok (.invokevirtual 69, 3) := by decide +kernel
theorem dd_M_join_62 : decode bc_M_join 62 = .ok (.iconst 0, 1) := by decide +kernel
theorem dd_M_join_63 : decode bc_M_join 63 = .ok (.istore_n 2, 1) := by decide +kernel
theorem dd_M_join_64 : decode bc_M_join 64 = .ok (.iload_n 2, 1) := by decide +kernel
theorem dd_M_join_65 : decode bc_M_join 65 = .ok (.sipush 5040, 3) := by decide +kernel
theorem dd_M_join_68 : decode bc_M_join 68 = .ok (.if_icmp .ge 44, 3) := by decide +kernel
theorem dd_M_join_71 : decode bc_M_join 71 = .ok (.aload_n 0, 1) := by decide +kernel
theorem dd_M_join_72 : decode bc_M_join 72 = .ok (.getfield 39, 3) := by decide +kernel
theorem dd_M_join_75 : decode bc_M_join 75 = .ok (.iload_n 2, 1) := by decide +kernel
theorem dd_M_join_76 : decode bc_M_join 76 = .ok (.iaload, 1) := by decide +kernel
theorem dd_M_join_77 : decode bc_M_join 77 = .ok (.iconst 1, 1) := by decide +kernel
theorem dd_M_join_78 : decode bc_M_join 78 = .ok (.if_icmp .ne 28, 3) := by decide +kernel
theorem dd_M_join_81 : decode bc_M_join 81 = .ok (.aload_n 0, 1) := by decide +kernel
theorem dd_M_join_82 : decode bc_M_join 82 = .ok (.getfield 7, 3) := by decide +kernel
theorem dd_M_join_85 : decode bc_M_join 85 = .ok (.bipush 6, 2) := by decide +kernel
theorem dd_M_join_87 : decode bc_M_join 87 = .ok (.iload_n 2, 1) := by decide +kernel
theorem dd_M_join_88 : decode bc_M_join 88 = .ok (.iadd, 1) := by decide +kernel
theorem dd_M_join_89 : decode bc_M_join 89 = .ok (.iaload, 1) := by decide +kernel
theorem dd_M_join_90 : decode bc_M_join 90 = .ok (.ifCond .ne 16, 3) := by decide +kernel
theorem dd_M_join_93 : decode bc_M_join 93 = .ok (.aload_n 0, 1) := by decide +kernel
theorem dd_M_join_94 : decode bc_M_join 94 = .ok (.iload_n 2, 1) := by decide +kernel
theorem dd_M_join_95 : decode bc_M_join 95 = .ok (.invokevirtual 93, 3) := by decide +kernel
theorem dd_M_join_98 : decode bc_M_join 98 = .ok (.aload_n 0, 1) := by decide +kernel
theorem dd_M_join_99 : decode bc_M_join 99 = .ok (.invokevirtual 110, 3) := by decide +kernel
theorem dd_M_join_102 : decode bc_M_join 102 = .ok (.aload_n 0, 1) := by decide +kernel
theorem dd_M_join_103 : decode bc_M_join 103 = .ok (.invokevirtual 69, 3) := by decide +kernel
theorem dd_M_join_106 : decode bc_M_join 106 = .ok (.iinc 2 1, 3) := by decide +kernel
theorem dd_M_join_109 : decode bc_M_join 109 = .ok (.goto (-45), 3) := by decide +kernel
theorem dd_M_join_112 : decode bc_M_join 112 = .ok (.aload_n 0, 1) := by decide +kernel
theorem dd_M_join_113 : decode bc_M_join 113 = .ok (.iconst 0, 1) := by decide +kernel
theorem dd_M_join_114 : decode bc_M_join 114 = .ok (.putfield 130, 3) := by decide +kernel
theorem dd_M_join_117 : decode bc_M_join 117 = .ok (.aload_n 0, 1) := by decide +kernel
theorem dd_M_join_118 : decode bc_M_join 118 = .ok (.getfield 99, 3) := by decide +kernel
theorem dd_M_join_121 : decode bc_M_join 121 = .ok (.ireturn, 1) := by decide +kernel
theorem dd_M_typeOfRow_0 : decode bc_M_typeOfRow 0 = .ok (.iconst 0, 1) := by decide +kernel
theorem dd_M_typeOfRow_1 : decode bc_M_typeOfRow 1 = .ok (.istore_n 1, 1) := by decide +kernel
theorem dd_M_typeOfRow_2 : decode bc_M_typeOfRow 2 = .ok (.iload_n 1, 1) := by decide +kernel
theorem dd_M_typeOfRow_3 : decode bc_M_typeOfRow 3 = .ok (.bipush 8, 2) := by decide +kernel
theorem dd_M_typeOfRow_5 : decode bc_M_typeOfRow 5 = .ok (.if_icmp .ge 16, 3) := by decide +kernel
theorem dd_M_typeOfRow_8 : decode bc_M_typeOfRow 8 = .ok (.aload_n 0, 1) := by decide +kernel
theorem dd_M_typeOfRow_9 : decode bc_M_typeOfRow 9 = .ok (.getfield 42, 3) := by decide +kernel
theorem dd_M_typeOfRow_12 : decode bc_M_typeOfRow 12 = .ok (.iload_n 1, 1) := by decide +kernel
theorem dd_M_typeOfRow_13 : decode bc_M_typeOfRow 13 = .ok (.iconst 0, 1) := by decide +kernel
theorem dd_M_typeOfRow_14 : decode bc_M_typeOfRow 14 = .ok (.iastore, 1) := by decide +kernel
theorem dd_M_typeOfRow_15 : decode bc_M_typeOfRow 15 = .ok (.iinc 1 1, 3) := by decide +kernel
theorem dd_M_typeOfRow_18 : decode bc_M_typeOfRow 18 = .ok (.goto (-16), 3) := by decide +kernel
theorem dd_M_typeOfRow_21 : decode bc_M_typeOfRow 21 = .ok (.iconst 0, 1) := by decide +kernel
theorem dd_M_typeOfRow_22 : decode bc_M_typeOfRow 22 = .ok (.istore_n 1, 1) := by decide +kernel
theorem dd_M_typeOfRow_23 : decode bc_M_typeOfRow 23 = .ok (.iconst 0, 1) := by decide +kernel
theorem dd_M_typeOfRow_24 : decode bc_M_typeOfRow 24 = .ok (.istore_n 2, 1) := by decide +kernel
theorem dd_M_typeOfRow_25 : decode bc_M_typeOfRow 25 = .ok (.iload_n 2, 1) := by decide +kernel
theorem dd_M_typeOfRow_26 : decode bc_M_typeOfRow 26 = .ok (.aload_n 0, 1) := by decide +kernel
theorem dd_M_typeOfRow_27 : decode bc_M_typeOfRow 27 = .ok (.invokevirtual 72, 3) := by decide +kernel
theorem dd_M_typeOfRow_30 : decode bc_M_typeOfRow 30 = .ok (.if_icmp .ge 55, 3) := by decide +kernel
theorem dd_M_typeOfRow_33 : decode bc_M_typeOfRow 33 = .ok (.iconst 0, 1) := by decide +kernel
theorem dd_M_typeOfRow_34 : decode bc_M_typeOfRow 34 = .ok (.istore_n 3, 1) := by decide +kernel
theorem dd_M_typeOfRow_35 : decode bc_M_typeOfRow 35 = .ok (.iload_n 2, 1) := by decide +kernel
theorem dd_M_typeOfRow_36 : decode bc_M_typeOfRow 36 = .ok (.istore 4, 2) := by decide +kernel
theorem dd_M_typeOfRow_38 : decode bc_M_typeOfRow 38 = .ok (.iload_n 1, 1) := by decide +kernel
theorem dd_M_typeOfRow_39 : decode bc_M_typeOfRow 39 = .ok (.iload 4, 2) := by decide +kernel
theorem dd_M_typeOfRow_41 : decode bc_M_typeOfRow 41 = .ok (.ishr, 1) := by decide +kernel
theorem dd_M_typeOfRow_42 : decode bc_M_typeOfRow 42 = .ok (.iconst 1, 1) := by decide +kernel
theorem dd_M_typeOfRow_43 : decode bc_M_typeOfRow 43 = .ok (.iand, 1) := by decide +kernel
theorem dd_M_typeOfRow_44 : decode bc_M_typeOfRow 44 = .ok (.ifCond .ne 25, 3) := by decide +kernel
theorem dd_M_typeOfRow_47 : decode bc_M_typeOfRow 47 = .ok (.iload_n 1, 1) := by decide +kernel
theorem dd_M_typeOfRow_48 : decode bc_M_typeOfRow 48 = .ok (.iconst 1, 1) := by decide +kernel
theorem dd_M_typeOfRow_49 : decode bc_M_typeOfRow 49 = .ok (.iload 4, 2) := by decide +kernel
theorem dd_M_typeOfRow_51 : decode bc_M_typeOfRow 51 = .ok (.ishl, 1) := by decide +kernel
theorem dd_M_typeOfRow_52 : decode bc_M_typeOfRow 52 = .ok (.ior, 1) := by decide +kernel
theorem dd_M_typeOfRow_53 : decode bc_M_typeOfRow 53 = .ok (.istore_n 1, 1) := by decide +kernel
theorem dd_M_typeOfRow_54 : decode bc_M_typeOfRow 54 = .ok (.iinc 3 1, 3) := by decide +kernel
theorem dd_M_typeOfRow_57 : decode bc_M_typeOfRow 57 = .ok (.aload_n 0, 1) := by decide +kernel
theorem dd_M_typeOfRow_58 : decode bc_M_typeOfRow 58 = .ok (.getfield 23, 3) := by decide +kernel
theorem dd_M_typeOfRow_61 : decode bc_M_typeOfRow 61 = .ok (.iload 4, 2) := by decide +kernel
theorem dd_M_typeOfRow_63 : decode bc_M_typeOfRow 63 = .ok (.iaload, 1) := by decide +kernel
theorem dd_M_typeOfRow_64 : decode bc_M_typeOfRow 64 = .ok (.istore 4, 2) := by decide +kernel
theorem dd_M_typeOfRow_66 : decode bc_M_typeOfRow 66 = .ok (.goto (-28), 3) := by decide +kernel
theorem dd_M_typeOfRow_69 : decode bc_M_typeOfRow 69 = .ok (.aload_n 0, 1) := by decide +kernel
theorem dd_M_typeOfRow_70 : decode bc_M_typeOfRow 70 = .ok (.getfield 42, 3) := by decide +kernel
theorem dd_M_typeOfRow_73 : decode bc_M_typeOfRow 73 = .ok (.iload_n 3, 1) := by decide +kernel
theorem dd_M_typeOfRow_74 : decode bc_M_typeOfRow 74 = .ok (.dup2, 1) := by decide +kernel
