theorem dd_M_typeOfRow_75 : decode bc_M_typeOfRow 75 = .ok (.iaload, 1) := by decide +kernel
theorem dd_M_typeOfRow_76 : decode bc_M_typeOfRow 76 = .ok (.iconst 1, 1) := by decide +kernel
theorem dd_M_typeOfRow_77 : decode bc_M_typeOfRow 77 = .ok (.iadd, 1) := by decide +kernel
theorem dd_M_typeOfRow_78 : decode bc_M_typeOfRow 78 = .ok (.iastore, 1) := by decide +kernel
theorem dd_M_typeOfRow_79 : decode bc_M_typeOfRow 79 = .ok (.iinc 2 1, 3) := by decide +kernel
theorem dd_M_typeOfRow_82 : decode bc_M_typeOfRow 82 = .ok (.goto (-57), 3) := by decide +kernel
theorem dd_M_typeOfRow_85 : decode bc_M_typeOfRow 85 = .ok (.iconst 0, 1) := by decide +kernel
theorem dd_M_typeOfRow_86 : decode bc_M_typeOfRow 86 = .ok (.istore_n 2, 1) := by decide +kernel
theorem dd_M_typeOfRow_87 : decode bc_M_typeOfRow 87 = .ok (.bipush 7, 2) := by decide +kernel
theorem dd_M_typeOfRow_89 : decode bc_M_typeOfRow 89 = .ok (.istore_n 3, 1) := by decide +kernel
theorem dd_M_typeOfRow_90 : decode bc_M_typeOfRow 90 = .ok (.iload_n 3, 1) := by decide +kernel
theorem dd_M_typeOfRow_91 : decode bc_M_typeOfRow 91 = .ok (.ifCond .le 36, 3) := by decide +kernel
theorem dd_M_typeOfRow_94 : decode bc_M_typeOfRow 94 = .ok (.iconst 0, 1) := by decide +kernel
theorem dd_M_typeOfRow_95 : decode bc_M_typeOfRow 95 = .ok (.istore 4, 2) := by decide +kernel
theorem dd_M_typeOfRow_97 : decode bc_M_typeOfRow 97 = .ok (.iload 4, 2) := by decide +kernel
theorem dd_M_typeOfRow_99 : decode bc_M_typeOfRow 99 = .ok (.aload_n 0, 1) := by decide +kernel
theorem dd_M_typeOfRow_100 : decode bc_M_typeOfRow 100 = .ok (.getfield 42, 3) := by decide +kernel
theorem dd_M_typeOfRow_103 : decode bc_M_typeOfRow 103 = .ok (.iload_n 3, 1) := by decide +kernel
theorem dd_M_typeOfRow_104 : decode bc_M_typeOfRow 104 = .ok (.iaload, 1) := by decide +kernel
theorem dd_M_typeOfRow_105 : decode bc_M_typeOfRow 105 = .ok (.if_icmp .ge 16, 3) := by decide +kernel
theorem dd_M_typeOfRow_108 : decode bc_M_typeOfRow 108 = .ok (.bipush 10, 2) := by decide +kernel
theorem dd_M_typeOfRow_110 : decode bc_M_typeOfRow 110 = .ok (.iload_n 2, 1) := by decide +kernel
theorem dd_M_typeOfRow_111 : decode bc_M_typeOfRow 111 = .ok (.imul, 1) := by decide +kernel
theorem dd_M_typeOfRow_112 : decode bc_M_typeOfRow 112 = .ok (.iload_n 3, 1) := by decide +kernel
theorem dd_M_typeOfRow_113 : decode bc_M_typeOfRow 113 = .ok (.iadd, 1) := by decide +kernel
theorem dd_M_typeOfRow_114 : decode bc_M_typeOfRow 114 = .ok (.istore_n 2, 1) := by decide +kernel
theorem dd_M_typeOfRow_115 : decode bc_M_typeOfRow 115 = .ok (.iinc 4 1, 3) := by decide +kernel
theorem dd_M_typeOfRow_118 : decode bc_M_typeOfRow 118 = .ok (.goto (-21), 3) := by decide +kernel
theorem dd_M_typeOfRow_121 : decode bc_M_typeOfRow 121 = .ok (.iinc 3 (-1), 3) := by decide +kernel
theorem dd_M_typeOfRow_124 : decode bc_M_typeOfRow 124 = .ok (.goto (-34), 3) := by decide +kernel
theorem dd_M_typeOfRow_127 : decode bc_M_typeOfRow 127 = .ok (.iload_n 2, 1) := by decide +kernel
theorem dd_M_typeOfRow_128 : decode bc_M_typeOfRow 128 = .ok (.ireturn, 1) := by decide +kernel
theorem dd_M_common_0 : decode bc_M_common 0 = .ok (.iload_n 0, 1) := by decide +kernel
theorem dd_M_common_1 : decode bc_M_common 1 = .ok (.istore_n 2, 1) := by decide +kernel
theorem dd_M_common_2 : decode bc_M_common 2 = .ok (.iload_n 1, 1) := by decide +kernel
theorem dd_M_common_3 : decode bc_M_common 3 = .ok (.istore_n 3, 1) := by decide +kernel
theorem dd_M_common_4 : decode bc_M_common 4 = .ok (.iload_n 3, 1) := by decide +kernel
theorem dd_M_common_5 : decode bc_M_common 5 = .ok (.ifCond .eq 16, 3) := by decide +kernel
theorem dd_M_common_8 : decode bc_M_common 8 = .ok (.iload_n 2, 1) := by decide +kernel
theorem dd_M_common_9 : decode bc_M_common 9 = .ok (.iload_n 3, 1) := by decide +kernel
theorem dd_M_common_10 : decode bc_M_common 10 = .ok (.irem, 1) := by decide +kernel
theorem dd_M_common_11 : decode bc_M_common 11 = .ok (.istore 4, 2) := by decide +kernel
theorem dd_M_common_13 : decode bc_M_common 13 = .ok (.iload_n 3, 1) := by decide +kernel
theorem dd_M_common_14 : decode bc_M_common 14 = .ok (.istore_n 2, 1) := by decide +kernel
theorem dd_M_common_15 : decode bc_M_common 15 = .ok (.iload 4, 2) := by decide +kernel
theorem dd_M_common_17 : decode bc_M_common 17 = .ok (.istore_n 3, 1) := by decide +kernel
theorem dd_M_common_18 : decode bc_M_common 18 = .ok (.goto (-14), 3) := by decide +kernel
theorem dd_M_common_21 : decode bc_M_common 21 = .ok (.iload_n 2, 1) := by decide +kernel
theorem dd_M_common_22 : decode bc_M_common 22 = .ok (.ireturn, 1) := by decide +kernel
theorem dd_M_orderOf_0 : decode bc_M_orderOf 0 = .ok (.iconst 1, 1) := by decide +kernel
theorem dd_M_orderOf_1 : decode bc_M_orderOf 1 = .ok (.istore_n 1, 1) := by decide +kernel
theorem dd_M_orderOf_2 : decode bc_M_orderOf 2 = .ok (.iload_n 0, 1) := by decide +kernel
theorem dd_M_orderOf_3 : decode bc_M_orderOf 3 = .ok (.istore_n 2, 1) := by decide +kernel
theorem dd_M_orderOf_4 : decode bc_M_orderOf 4 = .ok (.iload_n 2, 1) := by decide +kernel
theorem dd_M_orderOf_5 : decode bc_M_orderOf 5 = .ok (.ifCond .le 27, 3) := by decide +kernel
theorem dd_M_orderOf_8 : decode bc_M_orderOf 8 = .ok (.iload_n 1, 1) := by decide +kernel
theorem dd_M_orderOf_9 : decode bc_M_orderOf 9 = .ok (.iload_n 1, 1) := by decide +kernel
theorem dd_M_orderOf_10 : decode bc_M_orderOf 10 = .ok (.iload_n 2, 1) := by decide +kernel
theorem dd_M_orderOf_11 : decode bc_M_orderOf 11 = .ok (.bipush 10, 2) := by decide +kernel
theorem dd_M_orderOf_13 : decode bc_M_orderOf 13 = .ok (.irem, 1) := by decide +kernel
theorem dd_M_orderOf_14 : decode bc_M_orderOf 14 = .ok (.invokestatic 137, 3) := by decide +kernel
theorem dd_M_orderOf_17 : decode bc_M_orderOf 17 = .ok (.idiv, 1) := by decide +kernel
theorem dd_M_orderOf_18 : decode bc_M_orderOf 18 = .ok (.iload_n 2, 1) := by decide +kernel
theorem dd_M_orderOf_19 : decode bc_M_orderOf 19 = .ok (.bipush 10, 2) := by decide +kernel
theorem dd_M_orderOf_21 : decode bc_M_orderOf 21 = .ok (.irem, 1) := by decide +kernel
theorem dd_M_orderOf_22 : decode bc_M_orderOf 22 = .ok (.imul, 1) := by decide +kernel
theorem dd_M_orderOf_23 : decode bc_M_orderOf 23 = .ok (.istore_n 1, 1) := by decide +kernel
theorem dd_M_orderOf_24 : decode bc_M_orderOf 24 = .ok (.iload_n 2, 1) := by decide +kernel
theorem dd_M_orderOf_25 : decode bc_M_orderOf 25 = .ok (.bipush 10, 2) := by decide +kernel
theorem dd_M_orderOf_27 : decode bc_M_orderOf 27 = .ok (.idiv, 1) := by decide +kernel
theorem dd_M_orderOf_28 : decode bc_M_orderOf 28 = .ok (.istore_n 2, 1) := by decide +kernel
theorem dd_M_orderOf_29 : decode bc_M_orderOf 29 = .ok (.goto (-25), 3) := by decide +kernel
theorem dd_M_orderOf_32 : decode bc_M_orderOf 32 = .ok (.iload_n 1, 1) := by decide +kernel
theorem dd_M_orderOf_33 : decode bc_M_orderOf 33 = .ok (.ireturn, 1) := by decide +kernel
theorem dd_M_turn_0 : decode bc_M_turn 0 = .ok (.iload_n 1, 1) := by decide +kernel
theorem dd_M_turn_1 : decode bc_M_turn 1 = .ok (.iconst 0, 1) := by decide +kernel
theorem dd_M_turn_2 : decode bc_M_turn 2 = .ok (.iconst 2, 1) := by decide +kernel
theorem dd_M_turn_3 : decode bc_M_turn 3 = .ok (.invokestatic 102, 3) := by decide +kernel
theorem dd_M_turn_6 : decode bc_M_turn 6 = .ok (.ifCond .ne 6, 3) := by decide +kernel
theorem dd_M_turn_9 : decode bc_M_turn 9 = .ok (.bipush (-2), 2) := by decide +kernel
theorem dd_M_turn_11 : decode bc_M_turn 11 = .ok (.ireturn, 1) := by decide +kernel
theorem dd_M_turn_12 : decode bc_M_turn 12 = .ok (.aload_n 0, 1) := by decide +kernel
theorem dd_M_turn_13 : decode bc_M_turn 13 = .ok (.invokevirtual 133, 3) := by decide +kernel
theorem dd_M_turn_16 : decode bc_M_turn 16 = .ok (.ifCond .ne 6, 3) := by decide +kernel
theorem dd_M_turn_19 : decode bc_M_turn 19 = .ok (.bipush (-7), 2) := by decide +kernel
theorem dd_M_turn_21 : decode bc_M_turn 21 = .ok (.ireturn, 1) := by decide +kernel
theorem dd_M_turn_22 : decode bc_M_turn 22 = .ok (.iload_n 1, 1) := by decide +kernel
theorem dd_M_turn_23 : decode bc_M_turn 23 = .ok (.ifCond .ne 18, 3) := by decide +kernel
theorem dd_M_turn_26 : decode bc_M_turn 26 = .ok (.aload_n 0, 1) := by decide +kernel
theorem dd_M_turn_27 : decode bc_M_turn 27 = .ok (.getfield 7, 3) := by decide +kernel
theorem dd_M_turn_30 : decode bc_M_turn 30 = .ok (.bipush 6, 2) := by decide +kernel
theorem dd_M_turn_32 : decode bc_M_turn 32 = .ok (.aload_n 0, 1) := by decide +kernel
theorem dd_M_turn_33 : decode bc_M_turn 33 = .ok (.invokevirtual 86, 3) := by decide +kernel
theorem dd_M_turn_36 : decode bc_M_turn 36 = .ok (.iadd, 1) := by decide +kernel
theorem dd_M_turn_37 : decode bc_M_turn 37 = .ok (.iaload, 1) := by decide +kernel
theorem dd_M_turn_38 : decode bc_M_turn 38 = .ok (.goto 22, 3) := by decide +kernel
theorem dd_M_turn_41 : decode bc_M_turn 41 = .ok (.iload_n 1, 1) := by decide +kernel
theorem dd_M_turn_42 : decode bc_M_turn 42 = .ok (.iconst 1, 1) := by decide +kernel
theorem dd_M_turn_43 : decode bc_M_turn 43 = .ok (.if_icmp .ne 10, 3) := by decide +kernel
theorem dd_M_turn_46 : decode bc_M_turn 46 = .ok (.aload_n 0, 1) := by decide +kernel
theorem dd_M_turn_47 : decode bc_M_turn 47 = .ok (.invokevirtual 141, 3) := by decide +kernel
theorem dd_M_turn_50 : decode bc_M_turn 50 = .ok (.goto 10, 3) := by decide +kernel
theorem dd_M_turn_53 : decode bc_M_turn 53 = .ok (.aload_n 0, 1) := by decide +kernel
theorem dd_M_turn_54 : decode bc_M_turn 54 = .ok (.invokevirtual 141, 3) := by decide +kernel
theorem dd_M_turn_57 : decode bc_M_turn 57 = .ok (.invokestatic 144, 3) := by decide +kernel
theorem dd_M_turn_60 : decode bc_M_turn 60 = .ok (.ireturn, 1) := by decide +kernel
theorem dd_M_addType_0 : decode bc_M_addType 0 = .ok (.aload_n 0, 1) := by decide +kernel
theorem dd_M_addType_1 : decode bc_M_addType 1 = .ok (.getfield 148, 3) := by decide +kernel
theorem dd_M_addType_4 : decode bc_M_addType 4 = .ok (.istore_n 2, 1) := by decide +kernel
theorem dd_M_addType_5 : decode bc_M_addType 5 = .ok (.iload_n 2, 1) := by decide +kernel
theorem dd_M_addType_6 : decode bc_M_addType 6 = .ok (.ifCond .le 21, 3) := by decide +kernel
theorem dd_M_addType_9 : decode bc_M_addType 9 = .ok (.aload_n 0, 1) := by decide +kernel
theorem dd_M_addType_10 : decode bc_M_addType 10 = .ok (.getfield 45, 3) := by decide +kernel
theorem dd_M_addType_13 : decode bc_M_addType 13 = .ok (.iload_n 2, 1) := by decide +kernel
theorem dd_M_addType_14 : decode bc_M_addType 14 = .ok (.iconst 1, 1) := by decide +kernel
theorem dd_M_addType_15 : decode bc_M_addType 15 = .ok (.isub, 1) := by decide +kernel
theorem dd_M_addType_16 : decode bc_M_addType 16 = .ok (.iaload, 1) := by decide +kernel
theorem dd_M_addType_17 : decode bc_M_addType 17 = .ok (.iload_n 1, 1) := by decide +kernel
theorem dd_M_addType_18 : decode bc_M_addType 18 = .ok (.if_icmp .ge 9, 3) := by decide +kernel
theorem dd_M_addType_21 : decode bc_M_addType 21 = .ok (.iinc 2 (-1), 3) := by decide +kernel
theorem dd_M_addType_24 : decode bc_M_addType 24 = .ok (.goto (-19), 3) := by decide +kernel
theorem dd_M_addType_27 : decode bc_M_addType 27 = .ok (.iload_n 2, 1) := by decide +kernel
theorem dd_M_addType_28 : decode bc_M_addType 28 = .ok (.ifCond .le 28, 3) := by decide +kernel
theorem dd_M_addType_31 : decode bc_M_addType 31 = .ok (.aload_n 0, 1) := by decide +kernel
theorem dd_M_addType_32 : decode bc_M_addType 32 = .ok (.getfield 45, 3) := by decide +kernel
theorem dd_M_addType_35 : decode bc_M_addType 35 = .ok (.iload_n 2, 1) := by decide +kernel
theorem dd_M_addType_36 : decode bc_M_addType 36 = .ok (.iconst 1, 1) := by decide +kernel
theorem dd_M_addType_37 : decode bc_M_addType 37 = .ok (.isub, 1) := by decide +kernel
theorem dd_M_addType_38 : decode bc_M_addType 38 = .ok (.iaload, 1) := by decide +kernel
theorem dd_M_addType_39 : decode bc_M_addType 39 = .ok (.iload_n 1, 1) := by decide +kernel
theorem dd_M_addType_40 : decode bc_M_addType 40 = .ok (.if_icmp .ne 16, 3) := by decide +kernel
theorem dd_M_addType_43 : decode bc_M_addType 43 = .ok (.aload_n 0, 1) := by decide +kernel
theorem dd_M_addType_44 : decode bc_M_addType 44 = .ok (.getfield 48, 3) := by decide +kernel
theorem dd_M_addType_47 : decode bc_M_addType 47 = .ok (.iload_n 2, 1) := by decide +kernel
theorem dd_M_addType_48 : decode bc_M_addType 48 = .ok (.iconst 1, 1) := by decide +kernel
theorem dd_M_addType_49 : decode bc_M_addType 49 = .ok (.isub, 1) := by decide +kernel
theorem dd_M_addType_50 : decode bc_M_addType 50 = .ok (.dup2, 1) := by decide +kernel
theorem dd_M_addType_51 : decode bc_M_addType 51 = .ok (.iaload, 1) := by decide +kernel
theorem dd_M_addType_52 : decode bc_M_addType 52 = .ok (.iconst 1, 1) := by decide +kernel
theorem dd_M_addType_53 : decode bc_M_addType 53 = .ok (.iadd, 1) := by decide +kernel
theorem dd_M_addType_54 : decode bc_M_addType 54 = .ok (.iastore, 1) := by decide +kernel
theorem dd_M_addType_55 : decode bc_M_addType 55 = .ok (.return_, 1) := by decide +kernel
theorem dd_M_addType_56 : decode bc_M_addType 56 = .ok (.aload_n 0, 1) := by decide +kernel
theorem dd_M_addType_57 : decode bc_M_addType 57 = .ok (.getfield 148, 3) := by decide +kernel
theorem dd_M_addType_60 : decode bc_M_addType 60 = .ok (.istore_n 3, 1) := by decide +kernel
theorem dd_M_addType_61 : decode bc_M_addType 61 = .ok (.iload_n 3, 1) := by decide +kernel
theorem dd_M_addType_62 : decode bc_M_addType 62 = .ok (.iload_n 2, 1) := by decide +kernel
theorem dd_M_addType_63 : decode bc_M_addType 63 = .ok (.if_icmp .le 37, 3) := by decide +kernel
theorem dd_M_addType_66 : decode bc_M_addType 66 = .ok (.aload_n 0, 1) := by decide +kernel
theorem dd_M_addType_67 : decode bc_M_addType 67 = .ok (.getfield 45, 3) := by decide +kernel
theorem dd_M_addType_70 : decode bc_M_addType 70 = .ok (.iload_n 3, 1) := by decide +kernel
theorem dd_M_addType_71 : decode bc_M_addType 71 = .ok (.aload_n 0, 1) := by decide +kernel
theorem dd_M_addType_72 : decode bc_M_addType 72 = .ok (.getfield 45, 3) := by decide +kernel
theorem dd_M_addType_75 : decode bc_M_addType 75 = .ok (.iload_n 3, 1) := by decide +kernel
theorem dd_M_addType_76 : decode bc_M_addType 76 = .ok (.iconst 1, 1) := by decide +kernel
theorem dd_M_addType_77 : decode bc_M_addType 77 = .ok (.isub, 1) := by decide +kernel
theorem dd_M_addType_78 : decode bc_M_addType 78 = .ok (.iaload, 1) := by decide +kernel
theorem dd_M_addType_79 : decode bc_M_addType 79 = .ok (.iastore, 1) := by decide +kernel
theorem dd_M_addType_80 : decode bc_M_addType 80 = .ok (.aload_n 0, 1) := by decide +kernel
theorem dd_M_addType_81 : decode bc_M_addType 81 = .ok (.getfield 48, 3) := by decide +kernel
theorem dd_M_addType_84 : decode bc_M_addType 84 = .ok (.iload_n 3, 1) := by decide +kernel
theorem dd_M_addType_85 : decode bc_M_addType 85 = .ok (.aload_n 0, 1) := by decide +kernel
theorem dd_M_addType_86 : decode bc_M_addType 86 = .ok (.getfield 48, 3) := by decide +kernel
theorem dd_M_addType_89 : decode bc_M_addType 89 = .ok (.iload_n 3, 1) := by decide +kernel
theorem dd_M_addType_90 : decode bc_M_addType 90 = .ok (.iconst 1, 1) := by decide +kernel
theorem dd_M_addType_91 : decode bc_M_addType 91 = .ok (.isub, 1) := by decide +kernel
theorem dd_M_addType_92 : decode bc_M_addType 92 = .ok (.iaload, 1) := by decide +kernel
theorem dd_M_addType_93 : decode bc_M_addType 93 = .ok (.iastore, 1) := by decide +kernel
theorem dd_M_addType_94 : decode bc_M_addType 94 = .ok (.iinc 3 (-1), 3) := by decide +kernel
theorem dd_M_addType_97 : decode bc_M_addType 97 = .ok (.goto (-36), 3) := by decide +kernel
theorem dd_M_addType_100 : decode bc_M_addType 100 = .ok (.aload_n 0, 1) := by decide +kernel
theorem dd_M_addType_101 : decode bc_M_addType 101 = .ok (.getfield 45, 3) := by decide +kernel
theorem dd_M_addType_104 : decode bc_M_addType 104 = .ok (.iload_n 2, 1) := by decide +kernel
theorem dd_M_addType_105 : decode bc_M_addType 105 = .ok (.iload_n 1, 1) := by decide +kernel
theorem dd_M_addType_106 : decode bc_M_addType 106 = .ok (.iastore, 1) := by decide +kernel
theorem dd_M_addType_107 : decode bc_M_addType 107 = .ok (.aload_n 0, 1) := by decide +kernel
theorem dd_M_addType_108 : decode bc_M_addType 108 = .ok (.getfield 48, 3) := by decide +kernel
theorem dd_M_addType_111 : decode bc_M_addType 111 = .ok (.iload_n 2, 1) := by decide +kernel
theorem dd_M_addType_112 : decode bc_M_addType 112 = .ok (.iconst 1, 1) := by decide +kernel
theorem dd_M_addType_113 : decode bc_M_addType 113 = .ok (.iastore, 1) := by decide +kernel
theorem dd_M_addType_114 : decode bc_M_addType 114 = .ok (.aload_n 0, 1) := by decide +kernel
theorem dd_M_addType_115 : decode bc_M_addType 115 = .ok (.dup, 1) := by decide +kernel
theorem dd_M_addType_116 : decode bc_M_addType 116 = .ok (.getfield 148, 3) := by decide +kernel
theorem dd_M_addType_119 : decode bc_M_addType 119 = .ok (.iconst 1, 1) := by decide +kernel
theorem dd_M_addType_120 : decode bc_M_addType 120 = .ok (.iadd, 1) := by decide +kernel
theorem dd_M_addType_121 : decode bc_M_addType 121 = .ok (.putfield 148, 3) := by decide +kernel
theorem dd_M_addType_124 : decode bc_M_addType 124 = .ok (.return_, 1) := by decide +kernel
theorem dd_M_layTurn_0 : decode bc_M_layTurn 0 = .ok (.iconst 0, 1) := by decide +kernel
theorem dd_M_layTurn_1 : decode bc_M_layTurn 1 = .ok (.istore_n 2, 1) := by decide +kernel
theorem dd_M_layTurn_2 : decode bc_M_layTurn 2 = .ok (.iload_n 2, 1) := by decide +kernel
theorem dd_M_layTurn_3 : decode bc_M_layTurn 3 = .ok (.aload_n 0, 1) := by decide +kernel
theorem dd_M_layTurn_4 : decode bc_M_layTurn 4 = .ok (.invokevirtual 72, 3) := by decide +kernel
theorem dd_M_layTurn_7 : decode bc_M_layTurn 7 = .ok (.if_icmp .ge 26, 3) := by decide +kernel
theorem dd_M_layTurn_10 : decode bc_M_layTurn 10 = .ok (.aload_n 0, 1) := by decide +kernel
theorem dd_M_layTurn_11 : decode bc_M_layTurn 11 = .ok (.getfield 23, 3) := by decide +kernel
theorem dd_M_layTurn_14 : decode bc_M_layTurn 14 = .ok (.iload_n 2, 1) := by decide +kernel
theorem dd_M_layTurn_15 : decode bc_M_layTurn 15 = .ok (.aload_n 0, 1) := by decide +kernel
theorem dd_M_layTurn_16 : decode bc_M_layTurn 16 = .ok (.getfield 36, 3) := by decide +kernel
theorem dd_M_layTurn_19 : decode bc_M_layTurn 19 = .ok (.bipush 7, 2) := by decide +kernel
theorem dd_M_layTurn_21 : decode bc_M_layTurn 21 = .ok (.iload_n 1, 1) := by decide +kernel
theorem dd_M_layTurn_22 : decode bc_M_layTurn 22 = .ok (.imul, 1) := by decide +kernel
theorem dd_M_layTurn_23 : decode bc_M_layTurn 23 = .ok (.iload_n 2, 1) := by decide +kernel
theorem dd_M_layTurn_24 : decode bc_M_layTurn 24 = .ok (.iadd, 1) := by decide +kernel
theorem dd_M_layTurn_25 : decode bc_M_layTurn 25 = .ok (.iaload, 1) := by decide +kernel
theorem dd_M_layTurn_26 : decode bc_M_layTurn 26 = .ok (.iastore, 1) := by decide +kernel
theorem dd_M_layTurn_27 : decode bc_M_layTurn 27 = .ok (.iinc 2 1, 3) := by decide +kernel
theorem dd_M_layTurn_30 : decode bc_M_layTurn 30 = .ok (.goto (-28), 3) := by decide +kernel
theorem dd_M_layTurn_33 : decode bc_M_layTurn 33 = .ok (.return_, 1) := by decide +kernel
theorem dd_M_layTypes_0 : decode bc_M_layTypes 0 = .ok (.aload_n 0, 1) := by decide +kernel
theorem dd_M_layTypes_1 : decode bc_M_layTypes 1 = .ok (.iconst 0, 1) := by decide +kernel
theorem dd_M_layTypes_2 : decode bc_M_layTypes 2 = .ok (.putfield 148, 3) := by decide +kernel
theorem dd_M_layTypes_5 : decode bc_M_layTypes 5 = .ok (.iconst 0, 1) := by decide +kernel
theorem dd_M_layTypes_6 : decode bc_M_layTypes 6 = .ok (.istore_n 1, 1) := by decide +kernel
theorem dd_M_layTypes_7 : decode bc_M_layTypes 7 = .ok (.iload_n 1, 1) := by decide +kernel
theorem dd_M_layTypes_8 : decode bc_M_layTypes 8 = .ok (.aload_n 0, 1) := by decide +kernel
theorem dd_M_layTypes_9 : decode bc_M_layTypes 9 = .ok (.getfield 99, 3) := by decide +kernel
theorem dd_M_layTypes_12 : decode bc_M_layTypes 12 = .ok (.if_icmp .ge 22, 3) := by decide +kernel
theorem dd_M_layTypes_15 : decode bc_M_layTypes 15 = .ok (.aload_n 0, 1) := by decide +kernel
theorem dd_M_layTypes_16 : decode bc_M_layTypes 16 = .ok (.iload_n 1, 1) := by decide +kernel
theorem dd_M_layTypes_17 : decode bc_M_layTypes 17 = .ok (.invokevirtual 151, 3) := by decide +kernel
theorem dd_M_layTypes_20 : decode bc_M_layTypes 20 = .ok (.aload_n 0, 1) := by decide +kernel
theorem dd_M_layTypes_21 : decode bc_M_layTypes 21 = .ok (.aload_n 0, 1) := by decide +kernel
theorem dd_M_layTypes_22 : decode bc_M_layTypes 22 = .ok (.invokevirtual 141, 3) := by decide +kernel
theorem dd_M_layTypes_25 : decode bc_M_layTypes 25 = .ok (.invokevirtual 154, 3) := by decide +kernel
theorem dd_M_layTypes_28 : decode bc_M_layTypes 28 = .ok (.iinc 1 1, 3) := by decide +kernel
theorem dd_M_layTypes_31 : decode bc_M_layTypes 31 = .ok (.goto (-24), 3) := by decide +kernel
theorem dd_M_layTypes_34 : decode bc_M_layTypes 34 = .ok (.return_, 1) := by decide +kernel
theorem dd_M_type_0 : decode bc_M_type 0 = .ok (.iload_n 1, 1) := by decide +kernel
theorem dd_M_type_1 : decode bc_M_type 1 = .ok (.iconst (-1), 1) := by decide +kernel
theorem dd_M_type_2 : decode bc_M_type 2 = .ok (.if_icmp .lt 12, 3) := by decide +kernel
theorem dd_M_type_5 : decode bc_M_type 5 = .ok (.iload_n 2, 1) := by decide +kernel
theorem dd_M_type_6 : decode bc_M_type 6 = .ok (.iconst 0, 1) := by decide +kernel
theorem dd_M_type_7 : decode bc_M_type 7 = .ok (.iconst 1, 1) := by decide +kernel
theorem dd_M_type_8 : decode bc_M_type 8 = .ok (.invokestatic 102, 3) := by decide +kernel
theorem dd_M_type_11 : decode bc_M_type 11 = .ok (.ifCond .ne 6, 3) := by decide +kernel
theorem dd_M_type_14 : decode bc_M_type 14 = .ok (.bipush (-2), 2) := by decide +kernel
theorem dd_M_type_16 : decode bc_M_type 16 = .ok (.ireturn, 1) := by decide +kernel
theorem dd_M_type_17 : decode bc_M_type 17 = .ok (.aload_n 0, 1) := by decide +kernel
theorem dd_M_type_18 : decode bc_M_type 18 = .ok (.invokevirtual 157, 3) := by decide +kernel
theorem dd_M_type_21 : decode bc_M_type 21 = .ok (.iload_n 1, 1) := by decide +kernel
theorem dd_M_type_22 : decode bc_M_type 22 = .ok (.iconst (-1), 1) := by decide +kernel
theorem dd_M_type_23 : decode bc_M_type 23 = .ok (.if_icmp .ne 8, 3) := by decide +kernel
theorem dd_M_type_26 : decode bc_M_type 26 = .ok (.aload_n 0, 1) := by decide +kernel
theorem dd_M_type_27 : decode bc_M_type 27 = .ok (.getfield 148, 3) := by decide +kernel
theorem dd_M_type_30 : decode bc_M_type 30 = .ok (.ireturn, 1) := by decide +kernel
theorem dd_M_type_31 : decode bc_M_type 31 = .ok (.iload_n 1, 1) := by decide +kernel
theorem dd_M_type_32 : decode bc_M_type 32 = .ok (.aload_n 0, 1) := by decide +kernel
theorem dd_M_type_33 : decode bc_M_type 33 = .ok (.getfield 148, 3) := by decide +kernel
theorem dd_M_type_36 : decode bc_M_type 36 = .ok (.if_icmp .lt 8, 3) := by decide +kernel
theorem dd_M_type_39 : decode bc_M_type 39 = .ok (.bipush (-6), 2) := by decide +kernel
theorem dd_M_type_41 : decode bc_M_type 41 = .ok (.goto 22, 3) := by decide +kernel
theorem dd_M_type_44 : decode bc_M_type 44 = .ok (.iload_n 2, 1) := by decide +kernel
theorem dd_M_type_45 : decode bc_M_type 45 = .ok (.ifCond .ne 12, 3) := by decide +kernel
theorem dd_M_type_48 : decode bc_M_type 48 = .ok (.aload_n 0, 1) := by decide +kernel
theorem dd_M_type_49 : decode bc_M_type 49 = .ok (.getfield 45, 3) := by decide +kernel
theorem dd_M_type_52 : decode bc_M_type 52 = .ok (.iload_n 1, 1) := by decide +kernel
theorem dd_M_type_53 : decode bc_M_type 53 = .ok (.iaload, 1) := by decide +kernel
theorem dd_M_type_54 : decode bc_M_type 54 = .ok (.goto 9, 3) := by decide +kernel
theorem dd_M_type_57 : decode bc_M_type 57 = .ok (.aload_n 0, 1) := by decide +kernel
theorem dd_M_type_58 : decode bc_M_type 58 = .ok (.getfield 48, 3) := by decide +kernel
theorem dd_M_type_61 : decode bc_M_type 61 = .ok (.iload_n 1, 1) := by decide +kernel
theorem dd_M_type_62 : decode bc_M_type 62 = .ok (.iaload, 1) := by decide +kernel
theorem dd_M_type_63 : decode bc_M_type 63 = .ok (.ireturn, 1) := by decide +kernel
theorem dd_M_isPoint_0 : decode bc_M_isPoint 0 = .ok (.iload_n 1, 1) := by decide +kernel
theorem dd_M_isPoint_1 : decode bc_M_isPoint 1 = .ok (.iconst 0, 1) := by decide +kernel
theorem dd_M_isPoint_2 : decode bc_M_isPoint 2 = .ok (.aload_n 0, 1) := by decide +kernel
theorem dd_M_isPoint_3 : decode bc_M_isPoint 3 = .ok (.invokevirtual 72, 3) := by decide +kernel
theorem dd_M_isPoint_6 : decode bc_M_isPoint 6 = .ok (.iconst 1, 1) := by decide +kernel
theorem dd_M_isPoint_7 : decode bc_M_isPoint 7 = .ok (.isub, 1) := by decide +kernel
theorem dd_M_isPoint_8 : decode bc_M_isPoint 8 = .ok (.invokestatic 102, 3) := by decide +kernel
theorem dd_M_isPoint_11 : decode bc_M_isPoint 11 = .ok (.ireturn, 1) := by decide +kernel
theorem dd_M_orbit_0 : decode bc_M_orbit 0 = .ok (.aload_n 0, 1) := by decide +kernel
theorem dd_M_orbit_1 : decode bc_M_orbit 1 = .ok (.iload_n 1, 1) := by decide +kernel
theorem dd_M_orbit_2 : decode bc_M_orbit 2 = .ok (.invokevirtual 160, 3) := by decide +kernel
theorem dd_M_orbit_5 : decode bc_M_orbit 5 = .ok (.ifCond .ne 5, 3) := by decide +kernel
theorem dd_M_orbit_8 : decode bc_M_orbit 8 = .ok (.iconst (-1), 1) := by decide +kernel
theorem dd_M_orbit_9 : decode bc_M_orbit 9 = .ok (.ireturn, 1) := by decide +kernel
theorem dd_M_orbit_10 : decode bc_M_orbit 10 = .ok (.iload_n 2, 1) := by decide +kernel
theorem dd_M_orbit_11 : decode bc_M_orbit 11 = .ok (.iconst 0, 1) := by decide +kernel
theorem dd_M_orbit_12 : decode bc_M_orbit 12 = .ok (.iconst 1, 1) := by decide +kernel
theorem dd_M_orbit_13 : decode bc_M_orbit 13 = .ok (.invokestatic 102, 3) := by decide +kernel
theorem dd_M_orbit_16 : decode bc_M_orbit 16 = .ok (.ifCond .ne 6, 3) := by decide +kernel
theorem dd_M_orbit_19 : decode bc_M_orbit 19 = .ok (.bipush (-2), 2) := by decide +kernel
theorem dd_M_orbit_21 : decode bc_M_orbit 21 = .ok (.ireturn, 1) := by decide +kernel
theorem dd_M_orbit_22 : decode bc_M_orbit 22 = .ok (.iconst 0, 1) := by decide +kernel
theorem dd_M_orbit_23 : decode bc_M_orbit 23 = .ok (.istore_n 3, 1) := by decide +kernel
theorem dd_M_orbit_24 : decode bc_M_orbit 24 = .ok (.iconst 0, 1) := by decide +kernel
theorem dd_M_orbit_25 : decode bc_M_orbit 25 = .ok (.istore 4, 2) := by decide +kernel
theorem dd_M_orbit_27 : decode bc_M_orbit 27 = .ok (.iconst 0, 1) := by decide +kernel
theorem dd_M_orbit_28 : decode bc_M_orbit 28 = .ok (.istore 5, 2) := by decide +kernel
theorem dd_M_orbit_30 : decode bc_M_orbit 30 = .ok (.iload 5, 2) := by decide +kernel
theorem dd_M_orbit_32 : decode bc_M_orbit 32 = .ok (.aload_n 0, 1) := by decide +kernel
theorem dd_M_orbit_33 : decode bc_M_orbit 33 = .ok (.getfield 99, 3) := by decide +kernel
theorem dd_M_orbit_36 : decode bc_M_orbit 36 = .ok (.if_icmp .ge 46, 3) := by decide +kernel
theorem dd_M_orbit_39 : decode bc_M_orbit 39 = .ok (.aload_n 0, 1) := by decide +kernel
theorem dd_M_orbit_40 : decode bc_M_orbit 40 = .ok (.getfield 36, 3) := by decide +kernel
theorem dd_M_orbit_43 : decode bc_M_orbit 43 = .ok (.bipush 7, 2) := by decide +kernel
theorem dd_M_orbit_45 : decode bc_M_orbit 45 = .ok (.iload 5, 2) := by decide +kernel
theorem dd_M_orbit_47 : decode bc_M_orbit 47 = .ok (.imul, 1) := by decide +kernel
theorem dd_M_orbit_48 : decode bc_M_orbit 48 = .ok (.iload_n 1, 1) := by decide +kernel
theorem dd_M_orbit_49 : decode bc_M_orbit 49 = .ok (.iadd, 1) := by decide +kernel
theorem dd_M_orbit_50 : decode bc_M_orbit 50 = .ok (.iaload, 1) := by decide +kernel
theorem dd_M_orbit_51 : decode bc_M_orbit 51 = .ok (.istore 6, 2) := by decide +kernel
theorem dd_M_orbit_53 : decode bc_M_orbit 53 = .ok (.iload_n 3, 1) := by decide +kernel
theorem dd_M_orbit_54 : decode bc_M_orbit 54 = .ok (.iconst 1, 1) := by decide +kernel
theorem dd_M_orbit_55 : decode bc_M_orbit 55 = .ok (.iload 6, 2) := by decide +kernel
theorem dd_M_orbit_57 : decode bc_M_orbit 57 = .ok (.ishl, 1) := by decide +kernel
theorem dd_M_orbit_58 : decode bc_M_orbit 58 = .ok (.ior, 1) := by decide +kernel
theorem dd_M_orbit_59 : decode bc_M_orbit 59 = .ok (.istore_n 3, 1) := by decide +kernel
theorem dd_M_orbit_60 : decode bc_M_orbit 60 = .ok (.iload 4, 2) := by decide +kernel
theorem dd_M_orbit_62 : decode bc_M_orbit 62 = .ok (.iload 6, 2) := by decide +kernel
theorem dd_M_orbit_64 : decode bc_M_orbit 64 = .ok (.iload_n 1, 1) := by decide +kernel
theorem dd_M_orbit_65 : decode bc_M_orbit 65 = .ok (.if_icmp .ne 7, 3) := by decide +kernel
theorem dd_M_orbit_68 : decode bc_M_orbit 68 = .ok (.iconst 1, 1) := by decide +kernel
theorem dd_M_orbit_69 : decode bc_M_orbit 69 = .ok (.goto 4, 3) := by decide +kernel
theorem dd_M_orbit_72 : decode bc_M_orbit 72 = .ok (.iconst 0, 1) := by decide +kernel
theorem dd_M_orbit_73 : decode bc_M_orbit 73 = .ok (.iadd, 1) := by decide +kernel
theorem dd_M_orbit_74 : decode bc_M_orbit 74 = .ok (.istore 4, 2) := by decide +kernel
theorem dd_M_orbit_76 : decode bc_M_orbit 76 = .ok (.iinc 5 1, 3) := by decide +kernel
theorem dd_M_orbit_79 : decode bc_M_orbit 79 = .ok (.goto (-49), 3) := by decide +kernel
theorem dd_M_orbit_82 : decode bc_M_orbit 82 = .ok (.iconst 0, 1) := by decide +kernel
theorem dd_M_orbit_83 : decode bc_M_orbit 83 = .ok (.istore 5, 2) := by decide +kernel
theorem dd_M_orbit_85 : decode bc_M_orbit 85 = .ok (.iconst 0, 1) := by decide +kernel
theorem dd_M_orbit_86 : decode bc_M_orbit 86 = .ok (.istore 6, 2) := by decide +kernel
theorem dd_M_orbit_88 : decode bc_M_orbit 88 = .ok (.iload 6, 2) := by decide +kernel
theorem dd_M_orbit_90 : decode bc_M_orbit 90 = .ok (.bipush 7, 2) := by decide +kernel
theorem dd_M_orbit_92 : decode bc_M_orbit 92 = .ok (.if_icmp .ge 20, 3) := by decide +kernel
theorem dd_M_orbit_95 : decode bc_M_orbit 95 = .ok (.iload 5, 2) := by decide +kernel
theorem dd_M_orbit_97 : decode bc_M_orbit 97 = .ok (.iload_n 3, 1) := by decide +kernel
theorem dd_M_orbit_98 : decode bc_M_orbit 98 = .ok (.iload 6, 2) := by decide +kernel
theorem dd_M_orbit_100 : decode bc_M_orbit 100 = .ok (.ishr, 1) := by decide +kernel
theorem dd_M_orbit_101 : decode bc_M_orbit 101 = .ok (.iconst 1, 1) := by decide +kernel
theorem dd_M_orbit_102 : decode bc_M_orbit 102 = .ok (.iand, 1) := by decide +kernel
theorem dd_M_orbit_103 : decode bc_M_orbit 103 = .ok (.iadd, 1) := by decide +kernel
theorem dd_M_orbit_104 : decode bc_M_orbit 104 = .ok (.istore 5, 2) := by decide +kernel
theorem dd_M_orbit_106 : decode bc_M_orbit 106 = .ok (.iinc 6 1, 3) := by decide +kernel
theorem dd_M_orbit_109 : decode bc_M_orbit 109 = .ok (.goto (-21), 3) := by decide +kernel
theorem dd_M_orbit_112 : decode bc_M_orbit 112 = .ok (.iload_n 2, 1) := by decide +kernel
theorem dd_M_orbit_113 : decode bc_M_orbit 113 = .ok (.ifCond .ne 8, 3) := by decide +kernel
theorem dd_M_orbit_116 : decode bc_M_orbit 116 = .ok (.iload 5, 2) := by decide +kernel
theorem dd_M_orbit_118 : decode bc_M_orbit 118 = .ok (.goto 5, 3) := by decide +kernel
theorem dd_M_orbit_121 : decode bc_M_orbit 121 = .ok (.iload 4, 2) := by decide +kernel
theorem dd_M_orbit_123 : decode bc_M_orbit 123 = .ok (.ireturn, 1) := by decide +kernel
theorem dd_M_layColours_0 : decode bc_M_layColours 0 = .ok (.iload_n 1, 1) := by decide +kernel
theorem dd_M_layColours_1 : decode bc_M_layColours 1 = .ok (.istore_n 2, 1) := by decide +kernel
theorem dd_M_layColours_2 : decode bc_M_layColours 2 = .ok (.aload_n 0, 1) := by decide +kernel
theorem dd_M_layColours_3 : decode bc_M_layColours 3 = .ok (.invokevirtual 72, 3) := by decide +kernel
theorem dd_M_layColours_6 : decode bc_M_layColours 6 = .ok (.iconst 1, 1) := by decide +kernel
theorem dd_M_layColours_7 : decode bc_M_layColours 7 = .ok (.isub, 1) := by decide +kernel
theorem dd_M_layColours_8 : decode bc_M_layColours 8 = .ok (.istore_n 3, 1) := by decide +kernel
theorem dd_M_layColours_9 : decode bc_M_layColours 9 = .ok (.iload_n 3, 1) := by decide +kernel
theorem dd_M_layColours_10 : decode bc_M_layColours 10 = .ok (.ifCond .lt 32, 3) := by decide +kernel
theorem dd_M_layColours_13 : decode bc_M_layColours 13 = .ok (.aload_n 0, 1) := by decide +kernel
theorem dd_M_layColours_14 : decode bc_M_layColours 14 = .ok (.getfield 51, 3) := by decide +kernel
theorem dd_M_layColours_17 : decode bc_M_layColours 17 = .ok (.iload_n 3, 1) := by decide +kernel
theorem dd_M_layColours_18 : decode bc_M_layColours 18 = .ok (.iload_n 2, 1) := by decide +kernel
theorem dd_M_layColours_19 : decode bc_M_layColours 19 = .ok (.aload_n 0, 1) := by decide +kernel
theorem dd_M_layColours_20 : decode bc_M_layColours 20 = .ok (.getfield 7, 3) := by decide +kernel
theorem dd_M_layColours_23 : decode bc_M_layColours 23 = .ok (.iconst 1, 1) := by decide +kernel
theorem dd_M_layColours_24 : decode bc_M_layColours 24 = .ok (.iaload, 1) := by decide +kernel
theorem dd_M_layColours_25 : decode bc_M_layColours 25 = .ok (.irem, 1) := by decide +kernel
theorem dd_M_layColours_26 : decode bc_M_layColours 26 = .ok (.iastore, 1) := by decide +kernel
theorem dd_M_layColours_27 : decode bc_M_layColours 27 = .ok (.iload_n 2, 1) := by decide +kernel
theorem dd_M_layColours_28 : decode bc_M_layColours 28 = .ok (.aload_n 0, 1) := by decide +kernel
theorem dd_M_layColours_29 : decode bc_M_layColours 29 = .ok (.getfield 7, 3) := by decide +kernel
theorem dd_M_layColours_32 : decode bc_M_layColours 32 = .ok (.iconst 1, 1) := by decide +kernel
theorem dd_M_layColours_33 : decode bc_M_layColours 33 = .ok (.iaload, 1) := by decide +kernel
theorem dd_M_layColours_34 : decode bc_M_layColours 34 = .ok (.idiv, 1) := by decide +kernel
theorem dd_M_layColours_35 : decode bc_M_layColours 35 = .ok (.istore_n 2, 1) := by decide +kernel
theorem dd_M_layColours_36 : decode bc_M_layColours 36 = .ok (.iinc 3 (-1), 3) := by decide +kernel
theorem dd_M_layColours_39 : decode bc_M_layColours 39 = .ok (.goto (-30), 3) := by decide +kernel
theorem dd_M_layColours_42 : decode bc_M_layColours 42 = .ok (.return_, 1) := by decide +kernel
theorem dd_M_layWorths_0 : decode bc_M_layWorths 0 = .ok (.iconst 1, 1) := by decide +kernel
theorem dd_M_layWorths_1 : decode bc_M_layWorths 1 = .ok (.istore_n 1, 1) := by decide +kernel
theorem dd_M_layWorths_2 : decode bc_M_layWorths 2 = .ok (.aload_n 0, 1) := by decide +kernel
theorem dd_M_layWorths_3 : decode bc_M_layWorths 3 = .ok (.invokevirtual 72, 3) := by decide +kernel
theorem dd_M_layWorths_6 : decode bc_M_layWorths 6 = .ok (.iconst 1, 1) := by decide +kernel
theorem dd_M_layWorths_7 : decode bc_M_layWorths 7 = .ok (.isub, 1) := by decide +kernel
theorem dd_M_layWorths_8 : decode bc_M_layWorths 8 = .ok (.istore_n 2, 1) := by decide +kernel
theorem dd_M_layWorths_9 : decode bc_M_layWorths 9 = .ok (.iload_n 2, 1) := by decide +kernel
theorem dd_M_layWorths_10 : decode bc_M_layWorths 10 = .ok (.ifCond .lt 25, 3) := by decide +kernel
theorem dd_M_layWorths_13 : decode bc_M_layWorths 13 = .ok (.aload_n 0, 1) := by decide +kernel
theorem dd_M_layWorths_14 : decode bc_M_layWorths 14 = .ok (.getfield 63, 3) := by decide +kernel
theorem dd_M_layWorths_17 : decode bc_M_layWorths 17 = .ok (.iload_n 2, 1) := by decide +kernel
theorem dd_M_layWorths_18 : decode bc_M_layWorths 18 = .ok (.iload_n 1, 1) := by decide +kernel
theorem dd_M_layWorths_19 : decode bc_M_layWorths 19 = .ok (.iastore, 1) := by decide +kernel
theorem dd_M_layWorths_20 : decode bc_M_layWorths 20 = .ok (.iload_n 1, 1) := by decide +kernel
theorem dd_M_layWorths_21 : decode bc_M_layWorths 21 = .ok (.aload_n 0, 1) := by decide +kernel
theorem dd_M_layWorths_22 : decode bc_M_layWorths 22 = .ok (.getfield 7, 3) := by decide +kernel
theorem dd_M_layWorths_25 : decode bc_M_layWorths 25 = .ok (.iconst 1, 1) := by decide +kernel
theorem dd_M_layWorths_26 : decode bc_M_layWorths 26 = .ok (.iaload, 1) := by decide +kernel
theorem dd_M_layWorths_27 : decode bc_M_layWorths 27 = .ok (.imul, 1) := by decide +kernel
theorem dd_M_layWorths_28 : decode bc_M_layWorths 28 = .ok (.istore_n 1, 1) := by decide +kernel
theorem dd_M_layWorths_29 : decode bc_M_layWorths 29 = .ok (.iinc 2 (-1), 3) := by decide +kernel
theorem dd_M_layWorths_32 : decode bc_M_layWorths 32 = .ok (.goto (-23), 3) := by decide +kernel
theorem dd_M_layWorths_35 : decode bc_M_layWorths 35 = .ok (.aload_n 0, 1) := by decide +kernel
theorem dd_M_layWorths_36 : decode bc_M_layWorths 36 = .ok (.iload_n 1, 1) := by decide +kernel
theorem dd_M_layWorths_37 : decode bc_M_layWorths 37 = .ok (.putfield 163, 3) := by decide +kernel
theorem dd_M_layWorths_40 : decode bc_M_layWorths 40 = .ok (.return_, 1) := by decide +kernel
theorem dd_M_turned_0 : decode bc_M_turned 0 = .ok (.iconst 0, 1) := by decide +kernel
theorem dd_M_turned_1 : decode bc_M_turned 1 = .ok (.istore_n 2, 1) := by decide +kernel
theorem dd_M_turned_2 : decode bc_M_turned 2 = .ok (.iconst 0, 1) := by decide +kernel
theorem dd_M_turned_3 : decode bc_M_turned 3 = .ok (.istore_n 3, 1) := by decide +kernel
theorem dd_M_turned_4 : decode bc_M_turned 4 = .ok (.iload_n 3, 1) := by decide +kernel
theorem dd_M_turned_5 : decode bc_M_turned 5 = .ok (.aload_n 0, 1) := by decide +kernel
theorem dd_M_turned_6 : decode bc_M_turned 6 = .ok (.invokevirtual 72, 3) := by decide +kernel
theorem dd_M_turned_9 : decode bc_M_turned 9 = .ok (.if_icmp .ge 35, 3) := by decide +kernel
theorem dd_M_turned_12 : decode bc_M_turned 12 = .ok (.iload_n 2, 1) := by decide +kernel
theorem dd_M_turned_13 : decode bc_M_turned 13 = .ok (.aload_n 0, 1) := by decide +kernel
theorem dd_M_turned_14 : decode bc_M_turned 14 = .ok (.getfield 51, 3) := by decide +kernel
theorem dd_M_turned_17 : decode bc_M_turned 17 = .ok (.iload_n 3, 1) := by decide +kernel
theorem dd_M_turned_18 : decode bc_M_turned 18 = .ok (.iaload, 1) := by decide +kernel
theorem dd_M_turned_19 : decode bc_M_turned 19 = .ok (.aload_n 0, 1) := by decide +kernel
theorem dd_M_turned_20 : decode bc_M_turned 20 = .ok (.getfield 63, 3) := by decide +kernel
theorem dd_M_turned_23 : decode bc_M_turned 23 = .ok (.aload_n 0, 1) := by decide +kernel
theorem dd_M_turned_24 : decode bc_M_turned 24 = .ok (.getfield 36, 3) := by decide +kernel
theorem dd_M_turned_27 : decode bc_M_turned 27 = .ok (.bipush 7, 2) := by decide +kernel
theorem dd_M_turned_29 : decode bc_M_turned 29 = .ok (.iload_n 1, 1) := by decide +kernel
theorem dd_M_turned_30 : decode bc_M_turned 30 = .ok (.imul, 1) := by decide +kernel
theorem dd_M_turned_31 : decode bc_M_turned 31 = .ok (.iload_n 3, 1) := by decide +kernel
theorem dd_M_turned_32 : decode bc_M_turned 32 = .ok (.iadd, 1) := by decide +kernel
theorem dd_M_turned_33 : decode bc_M_turned 33 = .ok (.iaload, 1) := by decide +kernel
theorem dd_M_turned_34 : decode bc_M_turned 34 = .ok (.iaload, 1) := by decide +kernel
theorem dd_M_turned_35 : decode bc_M_turned 35 = .ok (.imul, 1) := by decide +kernel
theorem dd_M_turned_36 : decode bc_M_turned 36 = .ok (.iadd, 1) := by decide +kernel
theorem dd_M_turned_37 : decode bc_M_turned 37 = .ok (.istore_n 2, 1) := by decide +kernel
theorem dd_M_turned_38 : decode bc_M_turned 38 = .ok (.iinc 3 1, 3) := by decide +kernel
theorem dd_M_turned_41 : decode bc_M_turned 41 = .ok (.goto (-37), 3) := by decide +kernel
theorem dd_M_turned_44 : decode bc_M_turned 44 = .ok (.iload_n 2, 1) := by decide +kernel
theorem dd_M_turned_45 : decode bc_M_turned 45 = .ok (.ireturn, 1) := by decide +kernel
theorem dd_M_layPatterns_0 : decode bc_M_layPatterns 0 = .ok (.aload_n 0, 1) := by decide +kernel
theorem dd_M_layPatterns_1 : decode bc_M_layPatterns 1 = .ok (.invokevirtual 166, 3) := by decide +kernel
theorem dd_M_layPatterns_4 : decode bc_M_layPatterns 4 = .ok (.aload_n 0, 1) := by decide +kernel
theorem dd_M_layPatterns_5 : decode bc_M_layPatterns 5 = .ok (.iconst 0, 1) := by decide +kernel
theorem dd_M_layPatterns_6 : decode bc_M_layPatterns 6 = .ok (.putfield 169, 3) := by decide +kernel
theorem dd_M_layPatterns_9 : decode bc_M_layPatterns 9 = .ok (.iconst 0, 1) := by decide +kernel
theorem dd_M_layPatterns_10 : decode bc_M_layPatterns 10 = .ok (.istore_n 1, 1) := by decide +kernel
theorem dd_M_layPatterns_11 : decode bc_M_layPatterns 11 = .ok (.iload_n 1, 1) := by decide +kernel
theorem dd_M_layPatterns_12 : decode bc_M_layPatterns 12 = .ok (.aload_n 0, 1) := by decide +kernel
theorem dd_M_layPatterns_13 : decode bc_M_layPatterns 13 = .ok (.getfield 163, 3) := by decide +kernel
theorem dd_M_layPatterns_16 : decode bc_M_layPatterns 16 = .ok (.if_icmp .ge 17, 3) := by decide +kernel
theorem dd_M_layPatterns_19 : decode bc_M_layPatterns 19 = .ok (.aload_n 0, 1) := by decide +kernel
theorem dd_M_layPatterns_20 : decode bc_M_layPatterns 20 = .ok (.getfield 54, 3) := by decide +kernel
theorem dd_M_layPatterns_23 : decode bc_M_layPatterns 23 = .ok (.iload_n 1, 1) := by decide +kernel
theorem dd_M_layPatterns_24 : decode bc_M_layPatterns 24 = .ok (.bipush (-6), 2) := by decide +kernel
theorem dd_M_layPatterns_26 : decode bc_M_layPatterns 26 = .ok (.iastore, 1) := by decide +kernel
theorem dd_M_layPatterns_27 : decode bc_M_layPatterns 27 = .ok (.iinc 1 1, 3) := by decide +kernel
theorem dd_M_layPatterns_30 : decode bc_M_layPatterns 30 = .ok (.goto (-19), 3) := by decide +kernel
theorem dd_M_layPatterns_33 : decode bc_M_layPatterns 33 = .ok (.iconst 0, 1) := by decide +kernel
theorem dd_M_layPatterns_34 : decode bc_M_layPatterns 34 = .ok (.istore_n 1, 1) := by decide +kernel
theorem dd_M_layPatterns_35 : decode bc_M_layPatterns 35 = .ok (.iload_n 1, 1) := by decide +kernel
theorem dd_M_layPatterns_36 : decode bc_M_layPatterns 36 = .ok (.aload_n 0, 1) := by decide +kernel
theorem dd_M_layPatterns_37 : decode bc_M_layPatterns 37 = .ok (.getfield 163, 3) := by decide +kernel
theorem dd_M_layPatterns_40 : decode bc_M_layPatterns 40 = .ok (.if_icmp .ge 53, 3) := by decide +kernel
theorem dd_M_layPatterns_43 : decode bc_M_layPatterns 43 = .ok (.aload_n 0, 1) := by decide +kernel
theorem dd_M_layPatterns_44 : decode bc_M_layPatterns 44 = .ok (.getfield 54, 3) := by decide +kernel
theorem dd_M_layPatterns_47 : decode bc_M_layPatterns 47 = .ok (.iload_n 1, 1) := by decide +kernel
theorem dd_M_layPatterns_48 : decode bc_M_layPatterns 48 = .ok (.iaload, 1) := by decide +kernel
theorem dd_M_layPatterns_49 : decode bc_M_layPatterns 49 = .ok (.ifCond .ge 38, 3) := by decide +kernel
theorem dd_M_layPatterns_52 : decode bc_M_layPatterns 52 = .ok (.aload_n 0, 1) := by decide +kernel
theorem dd_M_layPatterns_53 : decode bc_M_layPatterns 53 = .ok (.getfield 57, 3) := by decide +kernel
theorem dd_M_layPatterns_56 : decode bc_M_layPatterns 56 = .ok (.aload_n 0, 1) := by decide +kernel
theorem dd_M_layPatterns_57 : decode bc_M_layPatterns 57 = .ok (.getfield 169, 3) := by decide +kernel
theorem dd_M_layPatterns_60 : decode bc_M_layPatterns 60 = .ok (.iload_n 1, 1) := by decide +kernel
theorem dd_M_layPatterns_61 : decode bc_M_layPatterns 61 = .ok (.iastore, 1) := by decide +kernel
theorem dd_M_layPatterns_62 : decode bc_M_layPatterns 62 = .ok (.aload_n 0, 1) := by decide +kernel
theorem dd_M_layPatterns_63 : decode bc_M_layPatterns 63 = .ok (.getfield 60, 3) := by decide +kernel
theorem dd_M_layPatterns_66 : decode bc_M_layPatterns 66 = .ok (.aload_n 0, 1) := by decide +kernel
theorem dd_M_layPatterns_67 : decode bc_M_layPatterns 67 = .ok (.getfield 169, 3) := by decide +kernel
theorem dd_M_layPatterns_70 : decode bc_M_layPatterns 70 = .ok (.iconst 0, 1) := by decide +kernel
theorem dd_M_layPatterns_71 : decode bc_M_layPatterns 71 = .ok (.iastore, 1) := by decide +kernel
theorem dd_M_layPatterns_72 : decode bc_M_layPatterns 72 = .ok (.aload_n 0, 1) := by decide +kernel
theorem dd_M_layPatterns_73 : decode bc_M_layPatterns 73 = .ok (.iload_n 1, 1) := by decide +kernel
theorem dd_M_layPatterns_74 : decode bc_M_layPatterns 74 = .ok (.invokevirtual 172, 3) := by decide +kernel
theorem dd_M_layPatterns_77 : decode bc_M_layPatterns 77 = .ok (.aload_n 0, 1) := by decide +kernel
theorem dd_M_layPatterns_78 : decode bc_M_layPatterns 78 = .ok (.dup, 1) := by decide +kernel
theorem dd_M_layPatterns_79 : decode bc_M_layPatterns 79 = .ok (.getfield 169, 3) := by decide +kernel
theorem dd_M_layPatterns_82 : decode bc_M_layPatterns 82 = .ok (.iconst 1, 1) := by decide +kernel
theorem dd_M_layPatterns_83 : decode bc_M_layPatterns 83 = .ok (.iadd, 1) := by decide +kernel
theorem dd_M_layPatterns_84 : decode bc_M_layPatterns 84 = .ok (.putfield 169, 3) := by decide +kernel
theorem dd_M_layPatterns_87 : decode bc_M_layPatterns 87 = .ok (.iinc 1 1, 3) := by decide +kernel
theorem dd_M_layPatterns_90 : decode bc_M_layPatterns 90 = .ok (.goto (-55), 3) := by decide +kernel
theorem dd_M_layPatterns_93 : decode bc_M_layPatterns 93 = .ok (.return_, 1) := by decide +kernel
theorem dd_M_strike_0 : decode bc_M_strike 0 = .ok (.aload_n 0, 1) := by decide +kernel
theorem dd_M_strike_1 : decode bc_M_strike 1 = .ok (.iload_n 1, 1) := by decide +kernel
theorem dd_M_strike_2 : decode bc_M_strike 2 = .ok (.invokevirtual 175, 3) := by decide +kernel
theorem dd_M_strike_5 : decode bc_M_strike 5 = .ok (.iconst 0, 1) := by decide +kernel
theorem dd_M_strike_6 : decode bc_M_strike 6 = .ok (.istore_n 2, 1) := by decide +kernel
theorem dd_M_strike_7 : decode bc_M_strike 7 = .ok (.iload_n 2, 1) := by decide +kernel
theorem dd_M_strike_8 : decode bc_M_strike 8 = .ok (.aload_n 0, 1) := by decide +kernel
theorem dd_M_strike_9 : decode bc_M_strike 9 = .ok (.getfield 99, 3) := by decide +kernel
theorem dd_M_strike_12 : decode bc_M_strike 12 = .ok (.if_icmp .ge 47, 3) := by decide +kernel
theorem dd_M_strike_15 : decode bc_M_strike 15 = .ok (.aload_n 0, 1) := by decide +kernel
theorem dd_M_strike_16 : decode bc_M_strike 16 = .ok (.iload_n 2, 1) := by decide +kernel
theorem dd_M_strike_17 : decode bc_M_strike 17 = .ok (.invokevirtual 178, 3) := by decide +kernel
theorem dd_M_strike_20 : decode bc_M_strike 20 = .ok (.istore_n 3, 1) := by decide +kernel
theorem dd_M_strike_21 : decode bc_M_strike 21 = .ok (.aload_n 0, 1) := by decide +kernel
theorem dd_M_strike_22 : decode bc_M_strike 22 = .ok (.getfield 54, 3) := by decide +kernel
theorem dd_M_strike_25 : decode bc_M_strike 25 = .ok (.iload_n 3, 1) := by decide +kernel
theorem dd_M_strike_26 : decode bc_M_strike 26 = .ok (.iaload, 1) := by decide +kernel
theorem dd_M_strike_27 : decode bc_M_strike 27 = .ok (.ifCond .ge 26, 3) := by decide +kernel
theorem dd_M_strike_30 : decode bc_M_strike 30 = .ok (.aload_n 0, 1) := by decide +kernel
theorem dd_M_strike_31 : decode bc_M_strike 31 = .ok (.getfield 54, 3) := by decide +kernel
theorem dd_M_strike_34 : decode bc_M_strike 34 = .ok (.iload_n 3, 1) := by decide +kernel
theorem dd_M_strike_35 : decode bc_M_strike 35 = .ok (.aload_n 0, 1) := by decide +kernel
theorem dd_M_strike_36 : decode bc_M_strike 36 = .ok (.getfield 169, 3) := by decide +kernel
theorem dd_M_strike_39 : decode bc_M_strike 39 = .ok (.iastore, 1) := by decide +kernel
theorem dd_M_strike_40 : decode bc_M_strike 40 = .ok (.aload_n 0, 1) := by decide +kernel
theorem dd_M_strike_41 : decode bc_M_strike 41 = .ok (.getfield 60, 3) := by decide +kernel
theorem dd_M_strike_44 : decode bc_M_strike 44 = .ok (.aload_n 0, 1) := by decide +kernel
theorem dd_M_strike_45 : decode bc_M_strike 45 = .ok (.getfield 169, 3) := by decide +kernel
theorem dd_M_strike_48 : decode bc_M_strike 48 = .ok (.dup2, 1) := by decide +kernel
theorem dd_M_strike_49 : decode bc_M_strike 49 = .ok (.iaload, 1) := by decide +kernel
theorem dd_M_strike_50 : decode bc_M_strike 50 = .ok (.iconst 1, 1) := by decide +kernel
theorem dd_M_strike_51 : decode bc_M_strike 51 = .ok (.iadd, 1) := by decide +kernel
theorem dd_M_strike_52 : decode bc_M_strike 52 = .ok (.iastore, 1) := by decide +kernel
theorem dd_M_strike_53 : decode bc_M_strike 53 = .ok (.iinc 2 1, 3) := by decide +kernel
theorem dd_M_strike_56 : decode bc_M_strike 56 = .ok (.goto (-49), 3) := by decide +kernel
theorem dd_M_strike_59 : decode bc_M_strike 59 = .ok (.return_, 1) := by decide +kernel
theorem dd_M_weightOf_0 : decode bc_M_weightOf 0 = .ok (.aload_n 0, 1) := by decide +kernel
theorem dd_M_weightOf_1 : decode bc_M_weightOf 1 = .ok (.iload_n 1, 1) := by decide +kernel
theorem dd_M_weightOf_2 : decode bc_M_weightOf 2 = .ok (.invokevirtual 175, 3) := by decide +kernel
theorem dd_M_weightOf_5 : decode bc_M_weightOf 5 = .ok (.iconst 0, 1) := by decide +kernel
theorem dd_M_weightOf_6 : decode bc_M_weightOf 6 = .ok (.istore_n 2, 1) := by decide +kernel
theorem dd_M_weightOf_7 : decode bc_M_weightOf 7 = .ok (.iconst 0, 1) := by decide +kernel
theorem dd_M_weightOf_8 : decode bc_M_weightOf 8 = .ok (.istore_n 3, 1) := by decide +kernel
theorem dd_M_weightOf_9 : decode bc_M_weightOf 9 = .ok (.iload_n 3, 1) := by decide +kernel
theorem dd_M_weightOf_10 : decode bc_M_weightOf 10 = .ok (.aload_n 0, 1) := by decide +kernel
theorem dd_M_weightOf_11 : decode bc_M_weightOf 11 = .ok (.invokevirtual 72, 3) := by decide +kernel
theorem dd_M_weightOf_14 : decode bc_M_weightOf 14 = .ok (.if_icmp .ge 25, 3) := by decide +kernel
theorem dd_M_weightOf_17 : decode bc_M_weightOf 17 = .ok (.iload_n 2, 1) := by decide +kernel
theorem dd_M_weightOf_18 : decode bc_M_weightOf 18 = .ok (.aload_n 0, 1) := by decide +kernel
theorem dd_M_weightOf_19 : decode bc_M_weightOf 19 = .ok (.getfield 7, 3) := by decide +kernel
theorem dd_M_weightOf_22 : decode bc_M_weightOf 22 = .ok (.iconst 2, 1) := by decide +kernel
theorem dd_M_weightOf_23 : decode bc_M_weightOf 23 = .ok (.aload_n 0, 1) := by decide +kernel
theorem dd_M_weightOf_24 : decode bc_M_weightOf 24 = .ok (.getfield 51, 3) := by decide +kernel
theorem dd_M_weightOf_27 : decode bc_M_weightOf 27 = .ok (.iload_n 3, 1) := by decide +kernel
theorem dd_M_weightOf_28 : decode bc_M_weightOf 28 = .ok (.iaload, 1) := by decide +kernel
theorem dd_M_weightOf_29 : decode bc_M_weightOf 29 = .ok (.iadd, 1) := by decide +kernel
theorem dd_M_weightOf_30 : decode bc_M_weightOf 30 = .ok (.iaload, 1) := by decide +kernel
theorem dd_M_weightOf_31 : decode bc_M_weightOf 31 = .ok (.iadd, 1) := by decide +kernel
theorem dd_M_weightOf_32 : decode bc_M_weightOf 32 = .ok (.istore_n 2, 1) := by decide +kernel
theorem dd_M_weightOf_33 : decode bc_M_weightOf 33 = .ok (.iinc 3 1, 3) := by decide +kernel
theorem dd_M_weightOf_36 : decode bc_M_weightOf 36 = .ok (.goto (-27), 3) := by decide +kernel
theorem dd_M_weightOf_39 : decode bc_M_weightOf 39 = .ok (.iload_n 2, 1) := by decide +kernel
theorem dd_M_weightOf_40 : decode bc_M_weightOf 40 = .ok (.ireturn, 1) := by decide +kernel
theorem dd_M_coloursOf_0 : decode bc_M_coloursOf 0 = .ok (.aload_n 0, 1) := by decide +kernel
theorem dd_M_coloursOf_1 : decode bc_M_coloursOf 1 = .ok (.iload_n 1, 1) := by decide +kernel
theorem dd_M_coloursOf_2 : decode bc_M_coloursOf 2 = .ok (.invokevirtual 175, 3) := by decide +kernel
theorem dd_M_coloursOf_5 : decode bc_M_coloursOf 5 = .ok (.iconst 0, 1) := by decide +kernel
theorem dd_M_coloursOf_6 : decode bc_M_coloursOf 6 = .ok (.istore_n 2, 1) := by decide +kernel
theorem dd_M_coloursOf_7 : decode bc_M_coloursOf 7 = .ok (.iconst 0, 1) := by decide +kernel
theorem dd_M_coloursOf_8 : decode bc_M_coloursOf 8 = .ok (.istore_n 3, 1) := by decide +kernel
theorem dd_M_coloursOf_9 : decode bc_M_coloursOf 9 = .ok (.iload_n 3, 1) := by decide +kernel
theorem dd_M_coloursOf_10 : decode bc_M_coloursOf 10 = .ok (.aload_n 0, 1) := by decide +kernel
theorem dd_M_coloursOf_11 : decode bc_M_coloursOf 11 = .ok (.invokevirtual 72, 3) := by decide +kernel
theorem dd_M_coloursOf_14 : decode bc_M_coloursOf 14 = .ok (.if_icmp .ge 20, 3) := by decide +kernel
theorem dd_M_coloursOf_17 : decode bc_M_coloursOf 17 = .ok (.iload_n 2, 1) := by decide +kernel
theorem dd_M_coloursOf_18 : decode bc_M_coloursOf 18 = .ok (.iconst 1, 1) := by decide +kernel
theorem dd_M_coloursOf_19 : decode bc_M_coloursOf 19 = .ok (.aload_n 0, 1) := by decide +kernel
theorem dd_M_coloursOf_20 : decode bc_M_coloursOf 20 = .ok (.getfield 51, 3) := by decide +kernel
theorem dd_M_coloursOf_23 : decode bc_M_coloursOf 23 = .ok (.iload_n 3, 1) := by decide +kernel
theorem dd_M_coloursOf_24 : decode bc_M_coloursOf 24 = .ok (.iaload, 1) := by decide +kernel
theorem dd_M_coloursOf_25 : decode bc_M_coloursOf 25 = .ok (.ishl, 1) := by decide +kernel
theorem dd_M_coloursOf_26 : decode bc_M_coloursOf 26 = .ok (.ior, 1) := by decide +kernel
theorem dd_M_coloursOf_27 : decode bc_M_coloursOf 27 = .ok (.istore_n 2, 1) := by decide +kernel
theorem dd_M_coloursOf_28 : decode bc_M_coloursOf 28 = .ok (.iinc 3 1, 3) := by decide +kernel
theorem dd_M_coloursOf_31 : decode bc_M_coloursOf 31 = .ok (.goto (-22), 3) := by decide +kernel
theorem dd_M_coloursOf_34 : decode bc_M_coloursOf 34 = .ok (.iload_n 2, 1) := by decide +kernel
theorem dd_M_coloursOf_35 : decode bc_M_coloursOf 35 = .ok (.iconst 1, 1) := by decide +kernel
theorem dd_M_coloursOf_36 : decode bc_M_coloursOf 36 = .ok (.iand, 1) := by decide +kernel
theorem dd_M_coloursOf_37 : decode bc_M_coloursOf 37 = .ok (.iload_n 2, 1) := by decide +kernel
theorem dd_M_coloursOf_38 : decode bc_M_coloursOf 38 = .ok (.iconst 1, 1) := by decide +kernel
theorem dd_M_coloursOf_39 : decode bc_M_coloursOf 39 = .ok (.ishr, 1) := by decide +kernel
theorem dd_M_coloursOf_40 : decode bc_M_coloursOf 40 = .ok (.iconst 1, 1) := by decide +kernel
theorem dd_M_coloursOf_41 : decode bc_M_coloursOf 41 = .ok (.iand, 1) := by decide +kernel
theorem dd_M_coloursOf_42 : decode bc_M_coloursOf 42 = .ok (.iadd, 1) := by decide +kernel
theorem dd_M_coloursOf_43 : decode bc_M_coloursOf 43 = .ok (.iload_n 2, 1) := by decide +kernel
theorem dd_M_coloursOf_44 : decode bc_M_coloursOf 44 = .ok (.iconst 2, 1) := by decide +kernel
theorem dd_M_coloursOf_45 : decode bc_M_coloursOf 45 = .ok (.ishr, 1) := by decide +kernel
theorem dd_M_coloursOf_46 : decode bc_M_coloursOf 46 = .ok (.iconst 1, 1) := by decide +kernel
theorem dd_M_coloursOf_47 : decode bc_M_coloursOf 47 = .ok (.iand, 1) := by decide +kernel
theorem dd_M_coloursOf_48 : decode bc_M_coloursOf 48 = .ok (.iadd, 1) := by decide +kernel
theorem dd_M_coloursOf_49 : decode bc_M_coloursOf 49 = .ok (.iload_n 2, 1) := by decide +kernel
theorem dd_M_coloursOf_50 : decode bc_M_coloursOf 50 = .ok (.iconst 3, 1) := by decide +kernel
theorem dd_M_coloursOf_51 : decode bc_M_coloursOf 51 = .ok (.ishr, 1) := by decide +kernel
theorem dd_M_coloursOf_52 : decode bc_M_coloursOf 52 = .ok (.iconst 1, 1) := by decide +kernel
theorem dd_M_coloursOf_53 : decode bc_M_coloursOf 53 = .ok (.iand, 1) := by decide +kernel
theorem dd_M_coloursOf_54 : decode bc_M_coloursOf 54 = .ok (.iadd, 1) := by decide +kernel
theorem dd_M_coloursOf_55 : decode bc_M_coloursOf 55 = .ok (.ireturn, 1) := by decide +kernel
theorem dd_M_mirrored_0 : decode bc_M_mirrored 0 = .ok (.aload_n 0, 1) := by decide +kernel
theorem dd_M_mirrored_1 : decode bc_M_mirrored 1 = .ok (.iload_n 1, 1) := by decide +kernel
theorem dd_M_mirrored_2 : decode bc_M_mirrored 2 = .ok (.invokevirtual 175, 3) := by decide +kernel
theorem dd_M_mirrored_5 : decode bc_M_mirrored 5 = .ok (.iconst 0, 1) := by decide +kernel
theorem dd_M_mirrored_6 : decode bc_M_mirrored 6 = .ok (.istore_n 2, 1) := by decide +kernel
theorem dd_M_mirrored_7 : decode bc_M_mirrored 7 = .ok (.iconst 0, 1) := by decide +kernel
theorem dd_M_mirrored_8 : decode bc_M_mirrored 8 = .ok (.istore_n 3, 1) := by decide +kernel
theorem dd_M_mirrored_9 : decode bc_M_mirrored 9 = .ok (.iload_n 3, 1) := by decide +kernel
theorem dd_M_mirrored_10 : decode bc_M_mirrored 10 = .ok (.aload_n 0, 1) := by decide +kernel
theorem dd_M_mirrored_11 : decode bc_M_mirrored 11 = .ok (.invokevirtual 72, 3) := by decide +kernel
theorem dd_M_mirrored_14 : decode bc_M_mirrored 14 = .ok (.if_icmp .ge 32, 3) := by decide +kernel
theorem dd_M_mirrored_17 : decode bc_M_mirrored 17 = .ok (.iload_n 2, 1) := by decide +kernel
theorem dd_M_mirrored_18 : decode bc_M_mirrored 18 = .ok (.aload_n 0, 1) := by decide +kernel
theorem dd_M_mirrored_19 : decode bc_M_mirrored 19 = .ok (.getfield 51, 3) := by decide +kernel
theorem dd_M_mirrored_22 : decode bc_M_mirrored 22 = .ok (.aload_n 0, 1) := by decide +kernel
theorem dd_M_mirrored_23 : decode bc_M_mirrored 23 = .ok (.invokevirtual 72, 3) := by decide +kernel
theorem dd_M_mirrored_26 : decode bc_M_mirrored 26 = .ok (.iconst 1, 1) := by decide +kernel
theorem dd_M_mirrored_27 : decode bc_M_mirrored 27 = .ok (.isub, 1) := by decide +kernel
theorem dd_M_mirrored_28 : decode bc_M_mirrored 28 = .ok (.iload_n 3, 1) := by decide +kernel
theorem dd_M_mirrored_29 : decode bc_M_mirrored 29 = .ok (.isub, 1) := by decide +kernel
theorem dd_M_mirrored_30 : decode bc_M_mirrored 30 = .ok (.iaload, 1) := by decide +kernel
theorem dd_M_mirrored_31 : decode bc_M_mirrored 31 = .ok (.aload_n 0, 1) := by decide +kernel
theorem dd_M_mirrored_32 : decode bc_M_mirrored 32 = .ok (.getfield 63, 3) := by decide +kernel
theorem dd_M_mirrored_35 : decode bc_M_mirrored 35 = .ok (.iload_n 3, 1) := by decide +kernel
theorem dd_M_mirrored_36 : decode bc_M_mirrored 36 = .ok (.iaload, 1) := by decide +kernel
theorem dd_M_mirrored_37 : decode bc_M_mirrored 37 = .ok (.imul, 1) := by decide +kernel
theorem dd_M_mirrored_38 : decode bc_M_mirrored 38 = .ok (.iadd, 1) := by decide +kernel
theorem dd_M_mirrored_39 : decode bc_M_mirrored 39 = .ok (.istore_n 2, 1) := by decide +kernel
theorem dd_M_mirrored_40 : decode bc_M_mirrored 40 = .ok (.iinc 3 1, 3) := by decide +kernel
theorem dd_M_mirrored_43 : decode bc_M_mirrored 43 = .ok (.goto (-34), 3) := by decide +kernel
theorem dd_M_mirrored_46 : decode bc_M_mirrored 46 = .ok (.iload_n 2, 1) := by decide +kernel
theorem dd_M_mirrored_47 : decode bc_M_mirrored 47 = .ok (.ireturn, 1) := by decide +kernel
theorem dd_M_sorts_0 : decode bc_M_sorts 0 = .ok (.iload_n 1, 1) := by decide +kernel
theorem dd_M_sorts_1 : decode bc_M_sorts 1 = .ok (.iconst 1, 1) := by decide +kernel
theorem dd_M_sorts_2 : decode bc_M_sorts 2 = .ok (.iconst 4, 1) := by decide +kernel
theorem dd_M_sorts_3 : decode bc_M_sorts 3 = .ok (.invokestatic 102, 3) := by decide +kernel
theorem dd_M_sorts_6 : decode bc_M_sorts 6 = .ok (.ifCond .ne 6, 3) := by decide +kernel
theorem dd_M_sorts_9 : decode bc_M_sorts 9 = .ok (.bipush (-2), 2) := by decide +kernel
theorem dd_M_sorts_11 : decode bc_M_sorts 11 = .ok (.ireturn, 1) := by decide +kernel
theorem dd_M_sorts_12 : decode bc_M_sorts 12 = .ok (.aload_n 0, 1) := by decide +kernel
theorem dd_M_sorts_13 : decode bc_M_sorts 13 = .ok (.getfield 7, 3) := by decide +kernel
theorem dd_M_sorts_16 : decode bc_M_sorts 16 = .ok (.iconst 1, 1) := by decide +kernel
theorem dd_M_sorts_17 : decode bc_M_sorts 17 = .ok (.iaload, 1) := by decide +kernel
theorem dd_M_sorts_18 : decode bc_M_sorts 18 = .ok (.istore_n 2, 1) := by decide +kernel
theorem dd_M_sorts_19 : decode bc_M_sorts 19 = .ok (.aload_n 0, 1) := by decide +kernel
theorem dd_M_sorts_20 : decode bc_M_sorts 20 = .ok (.getfield 7, 3) := by decide +kernel
theorem dd_M_sorts_23 : decode bc_M_sorts 23 = .ok (.iconst 1, 1) := by decide +kernel
theorem dd_M_sorts_24 : decode bc_M_sorts 24 = .ok (.iload_n 1, 1) := by decide +kernel
theorem dd_M_sorts_25 : decode bc_M_sorts 25 = .ok (.iastore, 1) := by decide +kernel
theorem dd_M_sorts_26 : decode bc_M_sorts 26 = .ok (.iload_n 2, 1) := by decide +kernel
theorem dd_M_sorts_27 : decode bc_M_sorts 27 = .ok (.ireturn, 1) := by decide +kernel
theorem dd_M_weight_0 : decode bc_M_weight 0 = .ok (.iload_n 1, 1) := by decide +kernel
theorem dd_M_weight_1 : decode bc_M_weight 1 = .ok (.iconst 0, 1) := by decide +kernel
theorem dd_M_weight_2 : decode bc_M_weight 2 = .ok (.iconst 3, 1) := by decide +kernel
theorem dd_M_weight_3 : decode bc_M_weight 3 = .ok (.invokestatic 102, 3) := by decide +kernel
theorem dd_M_weight_6 : decode bc_M_weight 6 = .ok (.ifCond .ne 5, 3) := by decide +kernel
theorem dd_M_weight_9 : decode bc_M_weight 9 = .ok (.iconst (-1), 1) := by decide +kernel
theorem dd_M_weight_10 : decode bc_M_weight 10 = .ok (.ireturn, 1) := by decide +kernel
theorem dd_M_weight_11 : decode bc_M_weight 11 = .ok (.iload_n 2, 1) := by decide +kernel
theorem dd_M_weight_12 : decode bc_M_weight 12 = .ok (.iconst 0, 1) := by decide +kernel
theorem dd_M_weight_13 : decode bc_M_weight 13 = .ok (.bipush 9, 2) := by decide +kernel
theorem dd_M_weight_15 : decode bc_M_weight 15 = .ok (.invokestatic 102, 3) := by decide +kernel
theorem dd_M_weight_18 : decode bc_M_weight 18 = .ok (.ifCond .ne 6, 3) := by decide +kernel
theorem dd_M_weight_21 : decode bc_M_weight 21 = .ok (.bipush (-2), 2) := by decide +kernel
theorem dd_M_weight_23 : decode bc_M_weight 23 = .ok (.ireturn, 1) := by decide +kernel
theorem dd_M_weight_24 : decode bc_M_weight 24 = .ok (.aload_n 0, 1) := by decide +kernel
theorem dd_M_weight_25 : decode bc_M_weight 25 = .ok (.getfield 7, 3) := by decide +kernel
theorem dd_M_weight_28 : decode bc_M_weight 28 = .ok (.iconst 2, 1) := by decide +kernel
theorem dd_M_weight_29 : decode bc_M_weight 29 = .ok (.iload_n 1, 1) := by decide +kernel
theorem dd_M_weight_30 : decode bc_M_weight 30 = .ok (.iadd, 1) := by decide +kernel
theorem dd_M_weight_31 : decode bc_M_weight 31 = .ok (.iaload, 1) := by decide +kernel
theorem dd_M_weight_32 : decode bc_M_weight 32 = .ok (.istore_n 3, 1) := by decide +kernel
theorem dd_M_weight_33 : decode bc_M_weight 33 = .ok (.aload_n 0, 1) := by decide +kernel
theorem dd_M_weight_34 : decode bc_M_weight 34 = .ok (.getfield 7, 3) := by decide +kernel
theorem dd_M_weight_37 : decode bc_M_weight 37 = .ok (.iconst 2, 1) := by decide +kernel
theorem dd_M_weight_38 : decode bc_M_weight 38 = .ok (.iload_n 1, 1) := by decide +kernel
theorem dd_M_weight_39 : decode bc_M_weight 39 = .ok (.iadd, 1) := by decide +kernel
theorem dd_M_weight_40 : decode bc_M_weight 40 = .ok (.iload_n 2, 1) := by decide +kernel
theorem dd_M_weight_41 : decode bc_M_weight 41 = .ok (.iastore, 1) := by decide +kernel
theorem dd_M_weight_42 : decode bc_M_weight 42 = .ok (.iload_n 3, 1) := by decide +kernel
theorem dd_M_weight_43 : decode bc_M_weight 43 = .ok (.ireturn, 1) := by decide +kernel
theorem dd_M_patterns_0 : decode bc_M_patterns 0 = .ok (.iload_n 1, 1) := by decide +kernel
theorem dd_M_patterns_1 : decode bc_M_patterns 1 = .ok (.iconst (-1), 1) := by decide +kernel
theorem dd_M_patterns_2 : decode bc_M_patterns 2 = .ok (.bipush 63, 2) := by decide +kernel
theorem dd_M_patterns_4 : decode bc_M_patterns 4 = .ok (.invokestatic 102, 3) := by decide +kernel
theorem dd_M_patterns_7 : decode bc_M_patterns 7 = .ok (.ifCond .ne 6, 3) := by decide +kernel
theorem dd_M_patterns_10 : decode bc_M_patterns 10 = .ok (.bipush (-2), 2) := by decide +kernel
theorem dd_M_patterns_12 : decode bc_M_patterns 12 = .ok (.ireturn, 1) := by decide +kernel
theorem dd_M_patterns_13 : decode bc_M_patterns 13 = .ok (.aload_n 0, 1) := by decide +kernel
theorem dd_M_patterns_14 : decode bc_M_patterns 14 = .ok (.invokevirtual 181, 3) := by decide +kernel
theorem dd_M_patterns_17 : decode bc_M_patterns 17 = .ok (.iconst 0, 1) := by decide +kernel
theorem dd_M_patterns_18 : decode bc_M_patterns 18 = .ok (.istore_n 2, 1) := by decide +kernel
theorem dd_M_patterns_19 : decode bc_M_patterns 19 = .ok (.iconst 0, 1) := by decide +kernel
theorem dd_M_patterns_20 : decode bc_M_patterns 20 = .ok (.istore_n 3, 1) := by decide +kernel
theorem dd_M_patterns_21 : decode bc_M_patterns 21 = .ok (.iload_n 3, 1) := by decide +kernel
theorem dd_M_patterns_22 : decode bc_M_patterns 22 = .ok (.aload_n 0, 1) := by decide +kernel
theorem dd_M_patterns_23 : decode bc_M_patterns 23 = .ok (.getfield 169, 3) := by decide +kernel
theorem dd_M_patterns_26 : decode bc_M_patterns 26 = .ok (.if_icmp .ge 36, 3) := by decide +kernel
theorem dd_M_patterns_29 : decode bc_M_patterns 29 = .ok (.iload_n 2, 1) := by decide +kernel
theorem dd_M_patterns_30 : decode bc_M_patterns 30 = .ok (.iload_n 1, 1) := by decide +kernel
theorem dd_M_patterns_31 : decode bc_M_patterns 31 = .ok (.iconst (-1), 1) := by decide +kernel
theorem dd_M_patterns_32 : decode bc_M_patterns 32 = .ok (.if_icmp .eq 17, 3) := by decide +kernel
theorem dd_M_patterns_35 : decode bc_M_patterns 35 = .ok (.aload_n 0, 1) := by decide +kernel
theorem dd_M_patterns_36 : decode bc_M_patterns 36 = .ok (.aload_n 0, 1) := by decide +kernel
theorem dd_M_patterns_37 : decode bc_M_patterns 37 = .ok (.getfield 57, 3) := by decide +kernel
theorem dd_M_patterns_40 : decode bc_M_patterns 40 = .ok (.iload_n 3, 1) := by decide +kernel
theorem dd_M_patterns_41 : decode bc_M_patterns 41 = .ok (.iaload, 1) := by decide +kernel
theorem dd_M_patterns_42 : decode bc_M_patterns 42 = .ok (.invokevirtual 184, 3) := by decide +kernel
theorem dd_M_patterns_45 : decode bc_M_patterns 45 = .ok (.iload_n 1, 1) := by decide +kernel
theorem dd_M_patterns_46 : decode bc_M_patterns 46 = .ok (.if_icmp .ne 7, 3) := by decide +kernel
theorem dd_M_patterns_49 : decode bc_M_patterns 49 = .ok (.iconst 1, 1) := by decide +kernel
theorem dd_M_patterns_50 : decode bc_M_patterns 50 = .ok (.goto 4, 3) := by decide +kernel
theorem dd_M_patterns_53 : decode bc_M_patterns 53 = .ok (.iconst 0, 1) := by decide +kernel
theorem dd_M_patterns_54 : decode bc_M_patterns 54 = .ok (.iadd, 1) := by decide +kernel
theorem dd_M_patterns_55 : decode bc_M_patterns 55 = .ok (.istore_n 2, 1) := by decide +kernel
theorem dd_M_patterns_56 : decode bc_M_patterns 56 = .ok (.iinc 3 1, 3) := by decide +kernel
theorem dd_M_patterns_59 : decode bc_M_patterns 59 = .ok (.goto (-38), 3) := by decide +kernel
theorem dd_M_patterns_62 : decode bc_M_patterns 62 = .ok (.iload_n 2, 1) := by decide +kernel
theorem dd_M_patterns_63 : decode bc_M_patterns 63 = .ok (.ireturn, 1) := by decide +kernel
theorem dd_M_twin_0 : decode bc_M_twin 0 = .ok (.aload_n 0, 1) := by decide +kernel
theorem dd_M_twin_1 : decode bc_M_twin 1 = .ok (.getfield 54, 3) := by decide +kernel
theorem dd_M_twin_4 : decode bc_M_twin 4 = .ok (.aload_n 0, 1) := by decide +kernel
theorem dd_M_twin_5 : decode bc_M_twin 5 = .ok (.aload_n 0, 1) := by decide +kernel
theorem dd_M_twin_6 : decode bc_M_twin 6 = .ok (.getfield 57, 3) := by decide +kernel
theorem dd_M_twin_9 : decode bc_M_twin 9 = .ok (.iload_n 1, 1) := by decide +kernel
theorem dd_M_twin_10 : decode bc_M_twin 10 = .ok (.iaload, 1) := by decide +kernel
theorem dd_M_twin_11 : decode bc_M_twin 11 = .ok (.invokevirtual 187, 3) := by decide +kernel
theorem dd_M_twin_14 : decode bc_M_twin 14 = .ok (.iaload, 1) := by decide +kernel
theorem dd_M_twin_15 : decode bc_M_twin 15 = .ok (.ireturn, 1) := by decide +kernel
theorem dd_M_pattern_0 : decode bc_M_pattern 0 = .ok (.iload_n 2, 1) := by decide +kernel
theorem dd_M_pattern_1 : decode bc_M_pattern 1 = .ok (.iconst 0, 1) := by decide +kernel
theorem dd_M_pattern_2 : decode bc_M_pattern 2 = .ok (.iconst 4, 1) := by decide +kernel
theorem dd_M_pattern_3 : decode bc_M_pattern 3 = .ok (.invokestatic 102, 3) := by decide +kernel
theorem dd_M_pattern_6 : decode bc_M_pattern 6 = .ok (.ifCond .ne 6, 3) := by decide +kernel
theorem dd_M_pattern_9 : decode bc_M_pattern 9 = .ok (.bipush (-2), 2) := by decide +kernel
theorem dd_M_pattern_11 : decode bc_M_pattern 11 = .ok (.ireturn, 1) := by decide +kernel
theorem dd_M_pattern_12 : decode bc_M_pattern 12 = .ok (.aload_n 0, 1) := by decide +kernel
theorem dd_M_pattern_13 : decode bc_M_pattern 13 = .ok (.invokevirtual 181, 3) := by decide +kernel
theorem dd_M_pattern_16 : decode bc_M_pattern 16 = .ok (.iload_n 1, 1) := by decide +kernel
theorem dd_M_pattern_17 : decode bc_M_pattern 17 = .ok (.iconst 0, 1) := by decide +kernel
theorem dd_M_pattern_18 : decode bc_M_pattern 18 = .ok (.aload_n 0, 1) := by decide +kernel
theorem dd_M_pattern_19 : decode bc_M_pattern 19 = .ok (.getfield 169, 3) := by decide +kernel
theorem dd_M_pattern_22 : decode bc_M_pattern 22 = .ok (.iconst 1, 1) := by decide +kernel
theorem dd_M_pattern_23 : decode bc_M_pattern 23 = .ok (.isub, 1) := by decide +kernel
theorem dd_M_pattern_24 : decode bc_M_pattern 24 = .ok (.invokestatic 102, 3) := by decide +kernel
theorem dd_M_pattern_27 : decode bc_M_pattern 27 = .ok (.ifCond .ne 6, 3) := by decide +kernel
theorem dd_M_pattern_30 : decode bc_M_pattern 30 = .ok (.bipush (-6), 2) := by decide +kernel
theorem dd_M_pattern_32 : decode bc_M_pattern 32 = .ok (.ireturn, 1) := by decide +kernel
theorem dd_M_pattern_33 : decode bc_M_pattern 33 = .ok (.iload_n 2, 1) := by decide +kernel
theorem dd_M_pattern_34 : decode bc_M_pattern 34 = .ok (.tableswitch 61 0 3 #[30, 37, 44, 55], 30) := by decide +kernel
theorem dd_M_pattern_64 : decode bc_M_pattern 64 = .ok (.aload_n 0, 1) := by decide +kernel
theorem dd_M_pattern_65 : decode bc_M_pattern 65 = .ok (.getfield 57, 3) := by decide +kernel
theorem dd_M_pattern_68 : decode bc_M_pattern 68 = .ok (.iload_n 1, 1) := by decide +kernel
theorem dd_M_pattern_69 : decode bc_M_pattern 69 = .ok (.iaload, 1) := by decide +kernel
theorem dd_M_pattern_70 : decode bc_M_pattern 70 = .ok (.ireturn, 1) := by decide +kernel
theorem dd_M_pattern_71 : decode bc_M_pattern 71 = .ok (.aload_n 0, 1) := by decide +kernel
theorem dd_M_pattern_72 : decode bc_M_pattern 72 = .ok (.getfield 60, 3) := by decide +kernel
theorem dd_M_pattern_75 : decode bc_M_pattern 75 = .ok (.iload_n 1, 1) := by decide +kernel
theorem dd_M_pattern_76 : decode bc_M_pattern 76 = .ok (.iaload, 1) := by decide +kernel
theorem dd_M_pattern_77 : decode bc_M_pattern 77 = .ok (.ireturn, 1) := by decide +kernel
theorem dd_M_pattern_78 : decode bc_M_pattern 78 = .ok (.aload_n 0, 1) := by decide +kernel
theorem dd_M_pattern_79 : decode bc_M_pattern 79 = .ok (.aload_n 0, 1) := by decide +kernel
theorem dd_M_pattern_80 : decode bc_M_pattern 80 = .ok (.getfield 57, 3) := by decide +kernel
theorem dd_M_pattern_83 : decode bc_M_pattern 83 = .ok (.iload_n 1, 1) := by decide +kernel
theorem dd_M_pattern_84 : decode bc_M_pattern 84 = .ok (.iaload, 1) := by decide +kernel
theorem dd_M_pattern_85 : decode bc_M_pattern 85 = .ok (.invokevirtual 184, 3) := by decide +kernel
theorem dd_M_pattern_88 : decode bc_M_pattern 88 = .ok (.ireturn, 1) := by decide +kernel
theorem dd_M_pattern_89 : decode bc_M_pattern 89 = .ok (.aload_n 0, 1) := by decide +kernel
theorem dd_M_pattern_90 : decode bc_M_pattern 90 = .ok (.iload_n 1, 1) := by decide +kernel
theorem dd_M_pattern_91 : decode bc_M_pattern 91 = .ok (.invokevirtual 190, 3) := by decide +kernel
theorem dd_M_pattern_94 : decode bc_M_pattern 94 = .ok (.ireturn, 1) := by decide +kernel
theorem dd_M_pattern_95 : decode bc_M_pattern 95 = .ok (.aload_n 0, 1) := by decide +kernel
theorem dd_M_pattern_96 : decode bc_M_pattern 96 = .ok (.aload_n 0, 1) := by decide +kernel
theorem dd_M_pattern_97 : decode bc_M_pattern 97 = .ok (.getfield 57, 3) := by decide +kernel
theorem dd_M_pattern_100 : decode bc_M_pattern 100 = .ok (.iload_n 1, 1) := by decide +kernel
theorem dd_M_pattern_101 : decode bc_M_pattern 101 = .ok (.iaload, 1) := by decide +kernel
theorem dd_M_pattern_102 : decode bc_M_pattern 102 = .ok (.invokevirtual 193, 3) := by decide +kernel
theorem dd_M_pattern_105 : decode bc_M_pattern 105 = .ok (.ireturn, 1) := by decide +kernel
theorem dd_M_isNumber_0 : decode bc_M_isNumber 0 = .ok (.aload_n 0, 1) := by decide +kernel
theorem dd_M_isNumber_1 : decode bc_M_isNumber 1 = .ok (.invokevirtual 166, 3) := by decide +kernel
theorem dd_M_isNumber_4 : decode bc_M_isNumber 4 = .ok (.iload_n 1, 1) := by decide +kernel
theorem dd_M_isNumber_5 : decode bc_M_isNumber 5 = .ok (.iconst 0, 1) := by decide +kernel
theorem dd_M_isNumber_6 : decode bc_M_isNumber 6 = .ok (.aload_n 0, 1) := by decide +kernel
theorem dd_M_isNumber_7 : decode bc_M_isNumber 7 = .ok (.getfield 163, 3) := by decide +kernel
theorem dd_M_isNumber_10 : decode bc_M_isNumber 10 = .ok (.iconst 1, 1) := by decide +kernel
theorem dd_M_isNumber_11 : decode bc_M_isNumber 11 = .ok (.isub, 1) := by decide +kernel
theorem dd_M_isNumber_12 : decode bc_M_isNumber 12 = .ok (.invokestatic 102, 3) := by decide +kernel
theorem dd_M_isNumber_15 : decode bc_M_isNumber 15 = .ok (.ireturn, 1) := by decide +kernel
theorem dd_M_of_0 : decode bc_M_of 0 = .ok (.aload_n 0, 1) := by decide +kernel
theorem dd_M_of_1 : decode bc_M_of 1 = .ok (.iload_n 1, 1) := by decide +kernel
theorem dd_M_of_2 : decode bc_M_of 2 = .ok (.invokevirtual 196, 3) := by decide +kernel
theorem dd_M_of_5 : decode bc_M_of 5 = .ok (.ifCond .eq 12, 3) := by decide +kernel
theorem dd_M_of_8 : decode bc_M_of 8 = .ok (.iload_n 2, 1) := by decide +kernel
theorem dd_M_of_9 : decode bc_M_of 9 = .ok (.iconst 0, 1) := by decide +kernel
theorem dd_M_of_10 : decode bc_M_of 10 = .ok (.iconst 3, 1) := by decide +kernel
theorem dd_M_of_11 : decode bc_M_of 11 = .ok (.invokestatic 102, 3) := by decide +kernel
theorem dd_M_of_14 : decode bc_M_of 14 = .ok (.ifCond .ne 6, 3) := by decide +kernel
theorem dd_M_of_17 : decode bc_M_of 17 = .ok (.bipush (-2), 2) := by decide +kernel
theorem dd_M_of_19 : decode bc_M_of 19 = .ok (.ireturn, 1) := by decide +kernel
theorem dd_M_of_20 : decode bc_M_of 20 = .ok (.aload_n 0, 1) := by decide +kernel
theorem dd_M_of_21 : decode bc_M_of 21 = .ok (.invokevirtual 181, 3) := by decide +kernel
theorem dd_M_of_24 : decode bc_M_of 24 = .ok (.aload_n 0, 1) := by decide +kernel
theorem dd_M_of_25 : decode bc_M_of 25 = .ok (.getfield 54, 3) := by decide +kernel
theorem dd_M_of_28 : decode bc_M_of 28 = .ok (.iload_n 1, 1) := by decide +kernel
theorem dd_M_of_29 : decode bc_M_of 29 = .ok (.iaload, 1) := by decide +kernel
theorem dd_M_of_30 : decode bc_M_of 30 = .ok (.istore_n 3, 1) := by decide +kernel
theorem dd_M_of_31 : decode bc_M_of 31 = .ok (.iload_n 2, 1) := by decide +kernel
theorem dd_M_of_32 : decode bc_M_of 32 = .ok (.ifCond .ne 7, 3) := by decide +kernel
theorem dd_M_of_35 : decode bc_M_of 35 = .ok (.iload_n 3, 1) := by decide +kernel
theorem dd_M_of_36 : decode bc_M_of 36 = .ok (.goto 41, 3) := by decide +kernel
theorem dd_M_of_39 : decode bc_M_of 39 = .ok (.iload_n 2, 1) := by decide +kernel
theorem dd_M_of_40 : decode bc_M_of 40 = .ok (.iconst 1, 1) := by decide +kernel
theorem dd_M_of_41 : decode bc_M_of 41 = .ok (.if_icmp .ne 12, 3) := by decide +kernel
theorem dd_M_of_44 : decode bc_M_of 44 = .ok (.aload_n 0, 1) := by decide +kernel
theorem dd_M_of_45 : decode bc_M_of 45 = .ok (.getfield 57, 3) := by decide +kernel
theorem dd_M_of_48 : decode bc_M_of 48 = .ok (.iload_n 3, 1) := by decide +kernel
theorem dd_M_of_49 : decode bc_M_of 49 = .ok (.iaload, 1) := by decide +kernel
theorem dd_M_of_50 : decode bc_M_of 50 = .ok (.goto 27, 3) := by decide +kernel
theorem dd_M_of_53 : decode bc_M_of 53 = .ok (.iload_n 2, 1) := by decide +kernel
theorem dd_M_of_54 : decode bc_M_of 54 = .ok (.iconst 2, 1) := by decide +kernel
theorem dd_M_of_55 : decode bc_M_of 55 = .ok (.if_icmp .ne 17, 3) := by decide +kernel
theorem dd_M_of_58 : decode bc_M_of 58 = .ok (.aload_n 0, 1) := by decide +kernel
theorem dd_M_of_59 : decode bc_M_of 59 = .ok (.getfield 99, 3) := by decide +kernel
theorem dd_M_of_62 : decode bc_M_of 62 = .ok (.aload_n 0, 1) := by decide +kernel
theorem dd_M_of_63 : decode bc_M_of 63 = .ok (.getfield 60, 3) := by decide +kernel
theorem dd_M_of_66 : decode bc_M_of 66 = .ok (.iload_n 3, 1) := by decide +kernel
theorem dd_M_of_67 : decode bc_M_of 67 = .ok (.iaload, 1) := by decide +kernel
theorem dd_M_of_68 : decode bc_M_of 68 = .ok (.idiv, 1) := by decide +kernel
theorem dd_M_of_69 : decode bc_M_of 69 = .ok (.goto 8, 3) := by decide +kernel
theorem dd_M_of_72 : decode bc_M_of 72 = .ok (.aload_n 0, 1) := by decide +kernel
theorem dd_M_of_73 : decode bc_M_of 73 = .ok (.iload_n 1, 1) := by decide +kernel
theorem dd_M_of_74 : decode bc_M_of 74 = .ok (.invokevirtual 187, 3) := by decide +kernel
theorem dd_M_of_77 : decode bc_M_of 77 = .ok (.ireturn, 1) := by decide +kernel
theorem dd_M_isOf_0 : decode bc_M_isOf 0 = .ok (.iload_n 2, 1) := by decide +kernel
theorem dd_M_isOf_1 : decode bc_M_isOf 1 = .ok (.lookupswitch 67 #[(0, 27), (1, 42)], 27) := by decide +kernel
theorem dd_M_isOf_28 : decode bc_M_isOf 28 = .ok (.aload_n 0, 1) := by decide +kernel
theorem dd_M_isOf_29 : decode bc_M_isOf 29 = .ok (.iload_n 1, 1) := by decide +kernel
theorem dd_M_isOf_30 : decode bc_M_isOf 30 = .ok (.invokevirtual 190, 3) := by decide +kernel
theorem dd_M_isOf_33 : decode bc_M_isOf 33 = .ok (.iload_n 1, 1) := by decide +kernel
theorem dd_M_isOf_34 : decode bc_M_isOf 34 = .ok (.if_icmp .eq 7, 3) := by decide +kernel
theorem dd_M_isOf_37 : decode bc_M_isOf 37 = .ok (.iconst 1, 1) := by decide +kernel
theorem dd_M_isOf_38 : decode bc_M_isOf 38 = .ok (.goto 4, 3) := by decide +kernel
theorem dd_M_isOf_41 : decode bc_M_isOf 41 = .ok (.iconst 0, 1) := by decide +kernel
theorem dd_M_isOf_42 : decode bc_M_isOf 42 = .ok (.ireturn, 1) := by decide +kernel
theorem dd_M_isOf_43 : decode bc_M_isOf 43 = .ok (.aload_n 0, 1) := by decide +kernel
theorem dd_M_isOf_44 : decode bc_M_isOf 44 = .ok (.aload_n 0, 1) := by decide +kernel
theorem dd_M_isOf_45 : decode bc_M_isOf 45 = .ok (.getfield 57, 3) := by decide +kernel
theorem dd_M_isOf_48 : decode bc_M_isOf 48 = .ok (.iload_n 1, 1) := by decide +kernel
theorem dd_M_isOf_49 : decode bc_M_isOf 49 = .ok (.iaload, 1) := by decide +kernel
theorem dd_M_isOf_50 : decode bc_M_isOf 50 = .ok (.invokevirtual 193, 3) := by decide +kernel
theorem dd_M_isOf_53 : decode bc_M_isOf 53 = .ok (.aload_n 0, 1) := by decide +kernel
theorem dd_M_isOf_54 : decode bc_M_isOf 54 = .ok (.getfield 7, 3) := by decide +kernel
theorem dd_M_isOf_57 : decode bc_M_isOf 57 = .ok (.iconst 1, 1) := by decide +kernel
theorem dd_M_isOf_58 : decode bc_M_isOf 58 = .ok (.iaload, 1) := by decide +kernel
theorem dd_M_isOf_59 : decode bc_M_isOf 59 = .ok (.if_icmp .ne 7, 3) := by decide +kernel
theorem dd_M_isOf_62 : decode bc_M_isOf 62 = .ok (.iconst 1, 1) := by decide +kernel
theorem dd_M_isOf_63 : decode bc_M_isOf 63 = .ok (.goto 4, 3) := by decide +kernel
theorem dd_M_isOf_66 : decode bc_M_isOf 66 = .ok (.iconst 0, 1) := by decide +kernel
theorem dd_M_isOf_67 : decode bc_M_isOf 67 = .ok (.ireturn, 1) := by decide +kernel
theorem dd_M_isOf_68 : decode bc_M_isOf 68 = .ok (.aload_n 0, 1) := by decide +kernel
theorem dd_M_isOf_69 : decode bc_M_isOf 69 = .ok (.getfield 60, 3) := by decide +kernel
theorem dd_M_isOf_72 : decode bc_M_isOf 72 = .ok (.iload_n 1, 1) := by decide +kernel
theorem dd_M_isOf_73 : decode bc_M_isOf 73 = .ok (.iaload, 1) := by decide +kernel
theorem dd_M_isOf_74 : decode bc_M_isOf 74 = .ok (.iconst 1, 1) := by decide +kernel
theorem dd_M_isOf_75 : decode bc_M_isOf 75 = .ok (.if_icmp .ne 7, 3) := by decide +kernel
theorem dd_M_isOf_78 : decode bc_M_isOf 78 = .ok (.iconst 1, 1) := by decide +kernel
theorem dd_M_isOf_79 : decode bc_M_isOf 79 = .ok (.goto 4, 3) := by decide +kernel
theorem dd_M_isOf_82 : decode bc_M_isOf 82 = .ok (.iconst 0, 1) := by decide +kernel
theorem dd_M_isOf_83 : decode bc_M_isOf 83 = .ok (.ireturn, 1) := by decide +kernel
theorem dd_M_kinds_0 : decode bc_M_kinds 0 = .ok (.iload_n 1, 1) := by decide +kernel
theorem dd_M_kinds_1 : decode bc_M_kinds 1 = .ok (.iconst 0, 1) := by decide +kernel
theorem dd_M_kinds_2 : decode bc_M_kinds 2 = .ok (.iconst 3, 1) := by decide +kernel
theorem dd_M_kinds_3 : decode bc_M_kinds 3 = .ok (.invokestatic 102, 3) := by decide +kernel
theorem dd_M_kinds_6 : decode bc_M_kinds 6 = .ok (.ifCond .ne 6, 3) := by decide +kernel
theorem dd_M_kinds_9 : decode bc_M_kinds 9 = .ok (.bipush (-2), 2) := by decide +kernel
theorem dd_M_kinds_11 : decode bc_M_kinds 11 = .ok (.ireturn, 1) := by decide +kernel
theorem dd_M_kinds_12 : decode bc_M_kinds 12 = .ok (.aload_n 0, 1) := by decide +kernel
theorem dd_M_kinds_13 : decode bc_M_kinds 13 = .ok (.invokevirtual 181, 3) := by decide +kernel
theorem dd_M_kinds_16 : decode bc_M_kinds 16 = .ok (.iconst 0, 1) := by decide +kernel
theorem dd_M_kinds_17 : decode bc_M_kinds 17 = .ok (.istore_n 2, 1) := by decide +kernel
theorem dd_M_kinds_18 : decode bc_M_kinds 18 = .ok (.iconst 0, 1) := by decide +kernel
theorem dd_M_kinds_19 : decode bc_M_kinds 19 = .ok (.istore_n 3, 1) := by decide +kernel
theorem dd_M_kinds_20 : decode bc_M_kinds 20 = .ok (.iconst 0, 1) := by decide +kernel
theorem dd_M_kinds_21 : decode bc_M_kinds 21 = .ok (.istore 4, 2) := by decide +kernel
theorem dd_M_kinds_23 : decode bc_M_kinds 23 = .ok (.iload 4, 2) := by decide +kernel
theorem dd_M_kinds_25 : decode bc_M_kinds 25 = .ok (.aload_n 0, 1) := by decide +kernel
theorem dd_M_kinds_26 : decode bc_M_kinds 26 = .ok (.getfield 169, 3) := by decide +kernel
theorem dd_M_kinds_29 : decode bc_M_kinds 29 = .ok (.if_icmp .ge 50, 3) := by decide +kernel
theorem dd_M_kinds_32 : decode bc_M_kinds 32 = .ok (.iload_n 2, 1) := by decide +kernel
theorem dd_M_kinds_33 : decode bc_M_kinds 33 = .ok (.aload_n 0, 1) := by decide +kernel
theorem dd_M_kinds_34 : decode bc_M_kinds 34 = .ok (.iload 4, 2) := by decide +kernel
theorem dd_M_kinds_36 : decode bc_M_kinds 36 = .ok (.iload_n 1, 1) := by decide +kernel
theorem dd_M_kinds_37 : decode bc_M_kinds 37 = .ok (.invokevirtual 199, 3) := by decide +kernel
theorem dd_M_kinds_40 : decode bc_M_kinds 40 = .ok (.ifCond .eq 7, 3) := by decide +kernel
theorem dd_M_kinds_43 : decode bc_M_kinds 43 = .ok (.iconst 1, 1) := by decide +kernel
theorem dd_M_kinds_44 : decode bc_M_kinds 44 = .ok (.goto 4, 3) := by decide +kernel
theorem dd_M_kinds_47 : decode bc_M_kinds 47 = .ok (.iconst 0, 1) := by decide +kernel
theorem dd_M_kinds_48 : decode bc_M_kinds 48 = .ok (.iadd, 1) := by decide +kernel
theorem dd_M_kinds_49 : decode bc_M_kinds 49 = .ok (.istore_n 2, 1) := by decide +kernel
theorem dd_M_kinds_50 : decode bc_M_kinds 50 = .ok (.aload_n 0, 1) := by decide +kernel
theorem dd_M_kinds_51 : decode bc_M_kinds 51 = .ok (.getfield 60, 3) := by decide +kernel
theorem dd_M_kinds_54 : decode bc_M_kinds 54 = .ok (.iload 4, 2) := by decide +kernel
theorem dd_M_kinds_56 : decode bc_M_kinds 56 = .ok (.iaload, 1) := by decide +kernel
theorem dd_M_kinds_57 : decode bc_M_kinds 57 = .ok (.iload_n 3, 1) := by decide +kernel
theorem dd_M_kinds_58 : decode bc_M_kinds 58 = .ok (.if_icmp .le 13, 3) := by decide +kernel
theorem dd_M_kinds_61 : decode bc_M_kinds 61 = .ok (.aload_n 0, 1) := by decide +kernel
theorem dd_M_kinds_62 : decode bc_M_kinds 62 = .ok (.getfield 60, 3) := by decide +kernel
theorem dd_M_kinds_65 : decode bc_M_kinds 65 = .ok (.iload 4, 2) := by decide +kernel
theorem dd_M_kinds_67 : decode bc_M_kinds 67 = .ok (.iaload, 1) := by decide +kernel
theorem dd_M_kinds_68 : decode bc_M_kinds 68 = .ok (.goto 4, 3) := by decide +kernel
theorem dd_M_kinds_71 : decode bc_M_kinds 71 = .ok (.iload_n 3, 1) := by decide +kernel
theorem dd_M_kinds_72 : decode bc_M_kinds 72 = .ok (.istore_n 3, 1) := by decide +kernel
theorem dd_M_kinds_73 : decode bc_M_kinds 73 = .ok (.iinc 4 1, 3) := by decide +kernel
theorem dd_M_kinds_76 : decode bc_M_kinds 76 = .ok (.goto (-53), 3) := by decide +kernel
theorem dd_M_kinds_79 : decode bc_M_kinds 79 = .ok (.iload_n 1, 1) := by decide +kernel
theorem dd_M_kinds_80 : decode bc_M_kinds 80 = .ok (.iconst 3, 1) := by decide +kernel
theorem dd_M_kinds_81 : decode bc_M_kinds 81 = .ok (.if_icmp .ne 7, 3) := by decide +kernel
theorem dd_M_kinds_84 : decode bc_M_kinds 84 = .ok (.iload_n 3, 1) := by decide +kernel
theorem dd_M_kinds_85 : decode bc_M_kinds 85 = .ok (.goto 4, 3) := by decide +kernel
theorem dd_M_kinds_88 : decode bc_M_kinds 88 = .ok (.iload_n 2, 1) := by decide +kernel
theorem dd_M_kinds_89 : decode bc_M_kinds 89 = .ok (.ireturn, 1) := by decide +kernel
theorem dd_M_by_0 : decode bc_M_by 0 = .ok (.aload_n 0, 1) := by decide +kernel
theorem dd_M_by_1 : decode bc_M_by 1 = .ok (.iload_n 1, 1) := by decide +kernel
theorem dd_M_by_2 : decode bc_M_by 2 = .ok (.invokevirtual 196, 3) := by decide +kernel
theorem dd_M_by_5 : decode bc_M_by 5 = .ok (.ifCond .ne 6, 3) := by decide +kernel
theorem dd_M_by_8 : decode bc_M_by 8 = .ok (.bipush (-2), 2) := by decide +kernel
theorem dd_M_by_10 : decode bc_M_by 10 = .ok (.ireturn, 1) := by decide +kernel
theorem dd_M_by_11 : decode bc_M_by 11 = .ok (.aload_n 0, 1) := by decide +kernel
theorem dd_M_by_12 : decode bc_M_by 12 = .ok (.iload_n 2, 1) := by decide +kernel
theorem dd_M_by_13 : decode bc_M_by 13 = .ok (.invokevirtual 160, 3) := by decide +kernel
theorem dd_M_by_16 : decode bc_M_by 16 = .ok (.ifCond .ne 5, 3) := by decide +kernel
theorem dd_M_by_19 : decode bc_M_by 19 = .ok (.iconst (-1), 1) := by decide +kernel
theorem dd_M_by_20 : decode bc_M_by 20 = .ok (.ireturn, 1) := by decide +kernel
theorem dd_M_by_21 : decode bc_M_by 21 = .ok (.aload_n 0, 1) := by decide +kernel
theorem dd_M_by_22 : decode bc_M_by 22 = .ok (.invokevirtual 181, 3) := by decide +kernel
theorem dd_M_by_25 : decode bc_M_by 25 = .ok (.aload_n 0, 1) := by decide +kernel
theorem dd_M_by_26 : decode bc_M_by 26 = .ok (.getfield 57, 3) := by decide +kernel
theorem dd_M_by_29 : decode bc_M_by 29 = .ok (.aload_n 0, 1) := by decide +kernel
theorem dd_M_by_30 : decode bc_M_by 30 = .ok (.getfield 54, 3) := by decide +kernel
theorem dd_M_by_33 : decode bc_M_by 33 = .ok (.iload_n 1, 1) := by decide +kernel
theorem dd_M_by_34 : decode bc_M_by 34 = .ok (.iaload, 1) := by decide +kernel
theorem dd_M_by_35 : decode bc_M_by 35 = .ok (.iaload, 1) := by decide +kernel
theorem dd_M_by_36 : decode bc_M_by 36 = .ok (.istore_n 3, 1) := by decide +kernel
theorem dd_M_by_37 : decode bc_M_by 37 = .ok (.aload_n 0, 1) := by decide +kernel
theorem dd_M_by_38 : decode bc_M_by 38 = .ok (.iload_n 1, 1) := by decide +kernel
theorem dd_M_by_39 : decode bc_M_by 39 = .ok (.invokevirtual 175, 3) := by decide +kernel
theorem dd_M_by_42 : decode bc_M_by 42 = .ok (.iconst 0, 1) := by decide +kernel
theorem dd_M_by_43 : decode bc_M_by 43 = .ok (.istore 4, 2) := by decide +kernel
theorem dd_M_by_45 : decode bc_M_by 45 = .ok (.aload_n 0, 1) := by decide +kernel
theorem dd_M_by_46 : decode bc_M_by 46 = .ok (.iload 4, 2) := by decide +kernel
theorem dd_M_by_48 : decode bc_M_by 48 = .ok (.invokevirtual 178, 3) := by decide +kernel
theorem dd_M_by_51 : decode bc_M_by 51 = .ok (.iload_n 3, 1) := by decide +kernel
theorem dd_M_by_52 : decode bc_M_by 52 = .ok (.if_icmp .eq 9, 3) := by decide +kernel
theorem dd_M_by_55 : decode bc_M_by 55 = .ok (.iinc 4 1, 3) := by decide +kernel
theorem dd_M_by_58 : decode bc_M_by 58 = .ok (.goto (-13), 3) := by decide +kernel
theorem dd_M_by_61 : decode bc_M_by 61 = .ok (.aload_n 0, 1) := by decide +kernel
theorem dd_M_by_62 : decode bc_M_by 62 = .ok (.getfield 36, 3) := by decide +kernel
theorem dd_M_by_65 : decode bc_M_by 65 = .ok (.bipush 7, 2) := by decide +kernel
theorem dd_M_by_67 : decode bc_M_by 67 = .ok (.iload 4, 2) := by decide +kernel
theorem dd_M_by_69 : decode bc_M_by 69 = .ok (.imul, 1) := by decide +kernel
theorem dd_M_by_70 : decode bc_M_by 70 = .ok (.iload_n 2, 1) := by decide +kernel
theorem dd_M_by_71 : decode bc_M_by 71 = .ok (.iadd, 1) := by decide +kernel
theorem dd_M_by_72 : decode bc_M_by 72 = .ok (.iaload, 1) := by decide +kernel
theorem dd_M_by_73 : decode bc_M_by 73 = .ok (.ireturn, 1) := by decide +kernel
theorem dd_M_image_0 : decode bc_M_image 0 = .ok (.iload_n 1, 1) := by decide +kernel
theorem dd_M_image_1 : decode bc_M_image 1 = .ok (.iconst 0, 1) := by decide +kernel
theorem dd_M_image_2 : decode bc_M_image 2 = .ok (.iconst 1, 1) := by decide +kernel
theorem dd_M_image_3 : decode bc_M_image 3 = .ok (.invokestatic 102, 3) := by decide +kernel
theorem dd_M_image_6 : decode bc_M_image 6 = .ok (.ifCond .ne 6, 3) := by decide +kernel
theorem dd_M_image_9 : decode bc_M_image 9 = .ok (.bipush (-2), 2) := by decide +kernel
theorem dd_M_image_11 : decode bc_M_image 11 = .ok (.ireturn, 1) := by decide +kernel
theorem dd_M_image_12 : decode bc_M_image 12 = .ok (.iconst 0, 1) := by decide +kernel
theorem dd_M_image_13 : decode bc_M_image 13 = .ok (.istore_n 2, 1) := by decide +kernel
theorem dd_M_image_14 : decode bc_M_image 14 = .ok (.iload_n 2, 1) := by decide +kernel
theorem dd_M_image_15 : decode bc_M_image 15 = .ok (.sipush 5046, 3) := by decide +kernel
theorem dd_M_image_18 : decode bc_M_image 18 = .ok (.if_icmp .ge 27, 3) := by decide +kernel
theorem dd_M_image_21 : decode bc_M_image 21 = .ok (.aload_n 0, 1) := by decide +kernel
theorem dd_M_image_22 : decode bc_M_image 22 = .ok (.getfield 13, 3) := by decide +kernel
theorem dd_M_image_25 : decode bc_M_image 25 = .ok (.sipush 5046, 3) := by decide +kernel
theorem dd_M_image_28 : decode bc_M_image 28 = .ok (.iload_n 1, 1) := by decide +kernel
theorem dd_M_image_29 : decode bc_M_image 29 = .ok (.imul, 1) := by decide +kernel
theorem dd_M_image_30 : decode bc_M_image 30 = .ok (.iload_n 2, 1) := by decide +kernel
theorem dd_M_image_31 : decode bc_M_image 31 = .ok (.iadd, 1) := by decide +kernel
theorem dd_M_image_32 : decode bc_M_image 32 = .ok (.aload_n 0, 1) := by decide +kernel
theorem dd_M_image_33 : decode bc_M_image 33 = .ok (.getfield 7, 3) := by decide +kernel
theorem dd_M_image_36 : decode bc_M_image 36 = .ok (.iload_n 2, 1) := by decide +kernel
theorem dd_M_image_37 : decode bc_M_image 37 = .ok (.iaload, 1) := by decide +kernel
theorem dd_M_image_38 : decode bc_M_image 38 = .ok (.iastore, 1) := by decide +kernel
theorem dd_M_image_39 : decode bc_M_image 39 = .ok (.iinc 2 1, 3) := by decide +kernel
theorem dd_M_image_42 : decode bc_M_image 42 = .ok (.goto (-28), 3) := by decide +kernel
theorem dd_M_image_45 : decode bc_M_image 45 = .ok (.aload_n 0, 1) := by decide +kernel
theorem dd_M_image_46 : decode bc_M_image 46 = .ok (.getfield 16, 3) := by decide +kernel
theorem dd_M_image_49 : decode bc_M_image 49 = .ok (.iload_n 1, 1) := by decide +kernel
theorem dd_M_image_50 : decode bc_M_image 50 = .ok (.iconst 1, 1) := by decide +kernel
theorem dd_M_image_51 : decode bc_M_image 51 = .ok (.bastore, 1) := by decide +kernel
theorem dd_M_image_52 : decode bc_M_image 52 = .ok (.iconst 1, 1) := by decide +kernel
theorem dd_M_image_53 : decode bc_M_image 53 = .ok (.ireturn, 1) := by decide +kernel
theorem dd_M_restore_0 : decode bc_M_restore 0 = .ok (.iload_n 1, 1) := by decide +kernel
theorem dd_M_restore_1 : decode bc_M_restore 1 = .ok (.iconst 0, 1) := by decide +kernel
theorem dd_M_restore_2 : decode bc_M_restore 2 = .ok (.iconst 1, 1) := by decide +kernel
theorem dd_M_restore_3 : decode bc_M_restore 3 = .ok (.invokestatic 102, 3) := by decide +kernel
theorem dd_M_restore_6 : decode bc_M_restore 6 = .ok (.ifCond .ne 6, 3) := by decide +kernel
theorem dd_M_restore_9 : decode bc_M_restore 9 = .ok (.bipush (-2), 2) := by decide +kernel
theorem dd_M_restore_11 : decode bc_M_restore 11 = .ok (.ireturn, 1) := by decide +kernel
theorem dd_M_restore_12 : decode bc_M_restore 12 = .ok (.aload_n 0, 1) := by decide +kernel
theorem dd_M_restore_13 : decode bc_M_restore 13 = .ok (.getfield 16, 3) := by decide +kernel
theorem dd_M_restore_16 : decode bc_M_restore 16 = .ok (.iload_n 1, 1) := by decide +kernel
theorem dd_M_restore_17 : decode bc_M_restore 17 = .ok (.baload, 1) := by decide +kernel
theorem dd_M_restore_18 : decode bc_M_restore 18 = .ok (.ifCond .ne 6, 3) := by decide +kernel
theorem dd_M_restore_21 : decode bc_M_restore 21 = .ok (.bipush (-3), 2) := by decide +kernel
theorem dd_M_restore_23 : decode bc_M_restore 23 = .ok (.ireturn, 1) := by decide +kernel
theorem dd_M_restore_24 : decode bc_M_restore 24 = .ok (.iconst 0, 1) := by decide +kernel
theorem dd_M_restore_25 : decode bc_M_restore 25 = .ok (.istore_n 2, 1) := by decide +kernel
theorem dd_M_restore_26 : decode bc_M_restore 26 = .ok (.iload_n 2, 1) := by decide +kernel
theorem dd_M_restore_27 : decode bc_M_restore 27 = .ok (.sipush 5046, 3) := by decide +kernel
theorem dd_M_restore_30 : decode bc_M_restore 30 = .ok (.if_icmp .ge 27, 3) := by decide +kernel
theorem dd_M_restore_33 : decode bc_M_restore 33 = .ok (.aload_n 0, 1) := by decide +kernel
theorem dd_M_restore_34 : decode bc_M_restore 34 = .ok (.getfield 7, 3) := by decide +kernel
theorem dd_M_restore_37 : decode bc_M_restore 37 = .ok (.iload_n 2, 1) := by decide +kernel
theorem dd_M_restore_38 : decode bc_M_restore 38 = .ok (.aload_n 0, 1) := by decide +kernel
theorem dd_M_restore_39 : decode bc_M_restore 39 = .ok (.getfield 13, 3) := by decide +kernel
theorem dd_M_restore_42 : decode bc_M_restore 42 = .ok (.sipush 5046, 3) := by decide +kernel
theorem dd_M_restore_45 : decode bc_M_restore 45 = .ok (.iload_n 1, 1) := by decide +kernel
theorem dd_M_restore_46 : decode bc_M_restore 46 = .ok (.imul, 1) := by decide +kernel
theorem dd_M_restore_47 : decode bc_M_restore 47 = .ok (.iload_n 2, 1) := by decide +kernel
theorem dd_M_restore_48 : decode bc_M_restore 48 = .ok (.iadd, 1) := by decide +kernel
theorem dd_M_restore_49 : decode bc_M_restore 49 = .ok (.iaload, 1) := by decide +kernel
theorem dd_M_restore_50 : decode bc_M_restore 50 = .ok (.iastore, 1) := by decide +kernel
theorem dd_M_restore_51 : decode bc_M_restore 51 = .ok (.iinc 2 1, 3) := by decide +kernel
theorem dd_M_restore_54 : decode bc_M_restore 54 = .ok (.goto (-28), 3) := by decide +kernel
theorem dd_M_restore_57 : decode bc_M_restore 57 = .ok (.aload_n 0, 1) := by decide +kernel
theorem dd_M_restore_58 : decode bc_M_restore 58 = .ok (.invokevirtual 96, 3) := by decide +kernel
theorem dd_M_restore_61 : decode bc_M_restore 61 = .ok (.iconst 1, 1) := by decide +kernel
theorem dd_M_restore_62 : decode bc_M_restore 62 = .ok (.ireturn, 1) := by decide +kernel
theorem dd_M_count_0 : decode bc_M_count 0 = .ok (.iload_n 1, 1) := by decide +kernel
theorem dd_M_count_1 : decode bc_M_count 1 = .ok (.bipush 10, 2) := by decide +kernel
theorem dd_M_count_3 : decode bc_M_count 3 = .ok (.bipush 13, 2) := by decide +kernel
theorem dd_M_count_5 : decode bc_M_count 5 = .ok (.invokestatic 102, 3) := by decide +kernel
theorem dd_M_count_8 : decode bc_M_count 8 = .ok (.ifCond .eq 15, 3) := by decide +kernel
theorem dd_M_count_11 : decode bc_M_count 11 = .ok (.aload_n 0, 1) := by decide +kernel
theorem dd_M_count_12 : decode bc_M_count 12 = .ok (.getfield 7, 3) := by decide +kernel
theorem dd_M_count_15 : decode bc_M_count 15 = .ok (.iconst 2, 1) := by decide +kernel
theorem dd_M_count_16 : decode bc_M_count 16 = .ok (.iload_n 1, 1) := by decide +kernel
theorem dd_M_count_17 : decode bc_M_count 17 = .ok (.iadd, 1) := by decide +kernel
theorem dd_M_count_18 : decode bc_M_count 18 = .ok (.bipush 10, 2) := by decide +kernel
theorem dd_M_count_20 : decode bc_M_count 20 = .ok (.isub, 1) := by decide +kernel
theorem dd_M_count_21 : decode bc_M_count 21 = .ok (.iaload, 1) := by decide +kernel
theorem dd_M_count_22 : decode bc_M_count 22 = .ok (.ireturn, 1) := by decide +kernel
theorem dd_M_count_23 : decode bc_M_count 23 = .ok (.iload_n 1, 1) := by decide +kernel
theorem dd_M_count_24 : decode bc_M_count 24 = .ok (.tableswitch 88 0 4 #[36, 41, 46, 53, 58], 36) := by decide +kernel
theorem dd_M_count_60 : decode bc_M_count 60 = .ok (.aload_n 0, 1) := by decide +kernel
theorem dd_M_count_61 : decode bc_M_count 61 = .ok (.invokevirtual 72, 3) := by decide +kernel
theorem dd_M_count_64 : decode bc_M_count 64 = .ok (.ireturn, 1) := by decide +kernel
theorem dd_M_count_65 : decode bc_M_count 65 = .ok (.aload_n 0, 1) := by decide +kernel
theorem dd_M_count_66 : decode bc_M_count 66 = .ok (.getfield 99, 3) := by decide +kernel
theorem dd_M_count_69 : decode bc_M_count 69 = .ok (.ireturn, 1) := by decide +kernel
theorem dd_M_count_70 : decode bc_M_count 70 = .ok (.aload_n 0, 1) := by decide +kernel
theorem dd_M_count_71 : decode bc_M_count 71 = .ok (.getfield 7, 3) := by decide +kernel
theorem dd_M_count_74 : decode bc_M_count 74 = .ok (.iconst 1, 1) := by decide +kernel
theorem dd_M_count_75 : decode bc_M_count 75 = .ok (.iaload, 1) := by decide +kernel
theorem dd_M_count_76 : decode bc_M_count 76 = .ok (.ireturn, 1) := by decide +kernel
theorem dd_M_count_77 : decode bc_M_count 77 = .ok (.aload_n 0, 1) := by decide +kernel
theorem dd_M_count_78 : decode bc_M_count 78 = .ok (.getfield 130, 3) := by decide +kernel
theorem dd_M_count_81 : decode bc_M_count 81 = .ok (.ireturn, 1) := by decide +kernel
theorem dd_M_count_82 : decode bc_M_count 82 = .ok (.aload_n 0, 1) := by decide +kernel
theorem dd_M_count_83 : decode bc_M_count 83 = .ok (.getfield 16, 3) := by decide +kernel
theorem dd_M_count_86 : decode bc_M_count 86 = .ok (.iconst 0, 1) := by decide +kernel
theorem dd_M_count_87 : decode bc_M_count 87 = .ok (.baload, 1) := by decide +kernel
theorem dd_M_count_88 : decode bc_M_count 88 = .ok (.ifCond .eq 7, 3) := by decide +kernel
theorem dd_M_count_91 : decode bc_M_count 91 = .ok (.iconst 1, 1) := by decide +kernel
theorem dd_M_count_92 : decode bc_M_count 92 = .ok (.goto 4, 3) := by decide +kernel
theorem dd_M_count_95 : decode bc_M_count 95 = .ok (.iconst 0, 1) := by decide +kernel
theorem dd_M_count_96 : decode bc_M_count 96 = .ok (.aload_n 0, 1) := by decide +kernel
theorem dd_M_count_97 : decode bc_M_count 97 = .ok (.getfield 16, 3) := by decide +kernel
theorem dd_M_count_100 : decode bc_M_count 100 = .ok (.iconst 1, 1) := by decide +kernel
theorem dd_M_count_101 : decode bc_M_count 101 = .ok (.baload, 1) := by decide +kernel
theorem dd_M_count_102 : decode bc_M_count 102 = .ok (.ifCond .eq 7, 3) := by decide +kernel
theorem dd_M_count_105 : decode bc_M_count 105 = .ok (.iconst 2, 1) := by decide +kernel
theorem dd_M_count_106 : decode bc_M_count 106 = .ok (.goto 4, 3) := by decide +kernel
theorem dd_M_count_109 : decode bc_M_count 109 = .ok (.iconst 0, 1) := by decide +kernel
theorem dd_M_count_110 : decode bc_M_count 110 = .ok (.iadd, 1) := by decide +kernel
theorem dd_M_count_111 : decode bc_M_count 111 = .ok (.ireturn, 1) := by decide +kernel
theorem dd_M_count_112 : decode bc_M_count 112 = .ok (.bipush (-2), 2) := by decide +kernel
theorem dd_M_count_114 : decode bc_M_count 114 = .ok (.ireturn, 1) := by decide +kernel
theorem dd_J_bitCount_0 : decode bc_J_bitCount 0 = .ok (.iload_n 0, 1) := by decide +kernel
theorem dd_J_bitCount_1 : decode bc_J_bitCount 1 = .ok (.iload_n 0, 1) := by decide +kernel
theorem dd_J_bitCount_2 : decode bc_J_bitCount 2 = .ok (.iconst 1, 1) := by decide +kernel
theorem dd_J_bitCount_3 : decode bc_J_bitCount 3 = .ok (.iushr, 1) := by decide +kernel
theorem dd_J_bitCount_4 : decode bc_J_bitCount 4 = .ok (.ldc_w 265, 3) := by decide +kernel
theorem dd_J_bitCount_7 : decode bc_J_bitCount 7 = .ok (.iand, 1) := by decide +kernel
theorem dd_J_bitCount_8 : decode bc_J_bitCount 8 = .ok (.isub, 1) := by decide +kernel
theorem dd_J_bitCount_9 : decode bc_J_bitCount 9 = .ok (.istore_n 0, 1) := by decide +kernel
theorem dd_J_bitCount_10 : decode bc_J_bitCount 10 = .ok (.iload_n 0, 1) := by decide +kernel
theorem dd_J_bitCount_11 : decode bc_J_bitCount 11 = .ok (.ldc_w 266, 3) := by decide +kernel
theorem dd_J_bitCount_14 : decode bc_J_bitCount 14 = .ok (.iand, 1) := by decide +kernel
theorem dd_J_bitCount_15 : decode bc_J_bitCount 15 = .ok (.iload_n 0, 1) := by decide +kernel
theorem dd_J_bitCount_16 : decode bc_J_bitCount 16 = .ok (.iconst 2, 1) := by decide +kernel
theorem dd_J_bitCount_17 : decode bc_J_bitCount 17 = .ok (.iushr, 1) := by decide +kernel
theorem dd_J_bitCount_18 : decode bc_J_bitCount 18 = .ok (.ldc_w 266, 3) := by decide +kernel
theorem dd_J_bitCount_21 : decode bc_J_bitCount 21 = .ok (.iand, 1) := by decide +kernel
theorem dd_J_bitCount_22 : decode bc_J_bitCount 22 = .ok (.iadd, 1) := by decide +kernel
theorem dd_J_bitCount_23 : decode bc_J_bitCount 23 = .ok (.istore_n 0, 1) := by decide +kernel
theorem dd_J_bitCount_24 : decode bc_J_bitCount 24 = .ok (.iload_n 0, 1) := by decide +kernel
theorem dd_J_bitCount_25 : decode bc_J_bitCount 25 = .ok (.iload_n 0, 1) := by decide +kernel
theorem dd_J_bitCount_26 : decode bc_J_bitCount 26 = .ok (.iconst 4, 1) := by decide +kernel
theorem dd_J_bitCount_27 : decode bc_J_bitCount 27 = .ok (.iushr, 1) := by decide +kernel
theorem dd_J_bitCount_28 : decode bc_J_bitCount 28 = .ok (.iadd, 1) := by decide +kernel
theorem dd_J_bitCount_29 : decode bc_J_bitCount 29 = .ok (.ldc_w 267, 3) := by decide +kernel
theorem dd_J_bitCount_32 : decode bc_J_bitCount 32 = .ok (.iand, 1) := by decide +kernel
theorem dd_J_bitCount_33 : decode bc_J_bitCount 33 = .ok (.istore_n 0, 1) := by decide +kernel
theorem dd_J_bitCount_34 : decode bc_J_bitCount 34 = .ok (.iload_n 0, 1) := by decide +kernel
theorem dd_J_bitCount_35 : decode bc_J_bitCount 35 = .ok (.iload_n 0, 1) := by decide +kernel
theorem dd_J_bitCount_36 : decode bc_J_bitCount 36 = .ok (.bipush 8, 2) := by decide +kernel
theorem dd_J_bitCount_38 : decode bc_J_bitCount 38 = .ok (.iushr, 1) := by decide +kernel
theorem dd_J_bitCount_39 : decode bc_J_bitCount 39 = .ok (.iadd, 1) := by decide +kernel
theorem dd_J_bitCount_40 : decode bc_J_bitCount 40 = .ok (.istore_n 0, 1) := by decide +kernel
theorem dd_J_bitCount_41 : decode bc_J_bitCount 41 = .ok (.iload_n 0, 1) := by decide +kernel
theorem dd_J_bitCount_42 : decode bc_J_bitCount 42 = .ok (.iload_n 0, 1) := by decide +kernel
theorem dd_J_bitCount_43 : decode bc_J_bitCount 43 = .ok (.bipush 16, 2) := by decide +kernel
theorem dd_J_bitCount_45 : decode bc_J_bitCount 45 = .ok (.iushr, 1) := by decide +kernel
theorem dd_J_bitCount_46 : decode bc_J_bitCount 46 = .ok (.iadd, 1) := by decide +kernel
theorem dd_J_bitCount_47 : decode bc_J_bitCount 47 = .ok (.istore_n 0, 1) := by decide +kernel
theorem dd_J_bitCount_48 : decode bc_J_bitCount 48 = .ok (.iload_n 0, 1) := by decide +kernel
theorem dd_J_bitCount_49 : decode bc_J_bitCount 49 = .ok (.bipush 63, 2) := by decide +kernel
theorem dd_J_bitCount_51 : decode bc_J_bitCount 51 = .ok (.iand, 1) := by decide +kernel
theorem dd_J_bitCount_52 : decode bc_J_bitCount 52 = .ok (.ireturn, 1) := by decide +kernel
theorem dd_A_max_0 : decode bc_A_max 0 = .ok (.iload_n 0, 1) := by decide +kernel
theorem dd_A_max_1 : decode bc_A_max 1 = .ok (.iload_n 1, 1) := by decide +kernel
theorem dd_A_max_2 : decode bc_A_max 2 = .ok (.if_icmp .lt 7, 3) := by decide +kernel
theorem dd_A_max_5 : decode bc_A_max 5 = .ok (.iload_n 0, 1) := by decide +kernel
theorem dd_A_max_6 : decode bc_A_max 6 = .ok (.goto 4, 3) := by decide +kernel
theorem dd_A_max_9 : decode bc_A_max 9 = .ok (.iload_n 1, 1) := by decide +kernel
theorem dd_A_max_10 : decode bc_A_max 10 = .ok (.ireturn, 1) := by decide +kernel
theorem dd_A_min_0 : decode bc_A_min 0 = .ok (.iload_n 0, 1) := by decide +kernel
theorem dd_A_min_1 : decode bc_A_min 1 = .ok (.iload_n 1, 1) := by decide +kernel
theorem dd_A_min_2 : decode bc_A_min 2 = .ok (.if_icmp .gt 7, 3) := by decide +kernel
theorem dd_A_min_5 : decode bc_A_min 5 = .ok (.iload_n 0, 1) := by decide +kernel
theorem dd_A_min_6 : decode bc_A_min 6 = .ok (.goto 4, 3) := by decide +kernel
theorem dd_A_min_9 : decode bc_A_min 9 = .ok (.iload_n 1, 1) := by decide +kernel
theorem dd_A_min_10 : decode bc_A_min 10 = .ok (.ireturn, 1) := by decide +kernel
theorem dd_L_0 : decode code 0 = .ok (.new 7, 3) := by decide +kernel
theorem dd_L_3 : decode code 3 = .ok (.dup, 1) := by decide +kernel
theorem dd_L_4 : decode code 4 = .ok (.invokespecial 9, 3) := by decide +kernel
theorem dd_L_7 : decode code 7 = .ok (.astore_n 1, 1) := by decide +kernel
theorem dd_L_8 : decode code 8 = .ok (.new 10, 3) := by decide +kernel
theorem dd_L_11 : decode code 11 = .ok (.dup, 1) := by decide +kernel
theorem dd_L_12 : decode code 12 = .ok (.invokespecial 12, 3) := by decide +kernel
theorem dd_L_15 : decode code 15 = .ok (.astore_n 2, 1) := by decide +kernel
theorem dd_L_16 : decode code 16 = .ok (.iconst 0, 1) := by decide +kernel
theorem dd_L_17 : decode code 17 = .ok (.istore_n 3, 1) := by decide +kernel
theorem dd_L_18 : decode code 18 = .ok (.iload_n 3, 1) := by decide +kernel
theorem dd_L_19 : decode code 19 = .ok (.aload_n 0, 1) := by decide +kernel
theorem dd_L_20 : decode code 20 = .ok (.arraylength, 1) := by decide +kernel
theorem dd_L_21 : decode code 21 = .ok (.iconst 4, 1) := by decide +kernel
theorem dd_L_22 : decode code 22 = .ok (.isub, 1) := by decide +kernel
theorem dd_L_23 : decode code 23 = .ok (.if_icmp .gt 624, 3) := by decide +kernel
theorem dd_L_26 : decode code 26 = .ok (.aload_n 0, 1) := by decide +kernel
theorem dd_L_27 : decode code 27 = .ok (.iload_n 3, 1) := by decide +kernel
theorem dd_L_28 : decode code 28 = .ok (.iaload, 1) := by decide +kernel
theorem dd_L_29 : decode code 29 = .ok (.bipush 31, 2) := by decide +kernel
theorem dd_L_31 : decode code 31 = .ok (.iand, 1) := by decide +kernel
theorem dd_L_32 : decode code 32 = .ok (.tableswitch 609 0 18 #[92, 115, 158, 201, 214, 237, 250, 273, 306, 339, 362, 395, 418, 451, 484, 507, 540, 563, 586], 92) := by decide +kernel
theorem dd_L_124 : decode code 124 = .ok (.aload_n 1, 1) := by decide +kernel
theorem dd_L_125 : decode code 125 = .ok (.aload_n 0, 1) := by decide +kernel
theorem dd_L_126 : decode code 126 = .ok (.iload_n 3, 1) := by decide +kernel
theorem dd_L_127 : decode code 127 = .ok (.iconst 1, 1) := by decide +kernel
theorem dd_L_128 : decode code 128 = .ok (.iadd, 1) := by decide +kernel
theorem dd_L_129 : decode code 129 = .ok (.iaload, 1) := by decide +kernel
theorem dd_L_130 : decode code 130 = .ok (.invokevirtual 13, 3) := by decide +kernel
theorem dd_L_133 : decode code 133 = .ok (.aload_n 2, 1) := by decide +kernel
theorem dd_L_134 : decode code 134 = .ok (.aload_n 0, 1) := by decide +kernel
theorem dd_L_135 : decode code 135 = .ok (.iload_n 3, 1) := by decide +kernel
theorem dd_L_136 : decode code 136 = .ok (.iconst 1, 1) := by decide +kernel
theorem dd_L_137 : decode code 137 = .ok (.iadd, 1) := by decide +kernel
theorem dd_L_138 : decode code 138 = .ok (.iaload, 1) := by decide +kernel
theorem dd_L_139 : decode code 139 = .ok (.invokevirtual 17, 3) := by decide +kernel
theorem dd_L_142 : decode code 142 = .ok (.if_icmp .eq 499, 3) := by decide +kernel
theorem dd_L_145 : decode code 145 = .ok (.iconst 0, 1) := by decide +kernel
theorem dd_L_146 : decode code 146 = .ok (.ireturn, 1) := by decide +kernel
theorem dd_L_147 : decode code 147 = .ok (.aload_n 1, 1) := by decide +kernel
theorem dd_L_148 : decode code 148 = .ok (.aload_n 0, 1) := by decide +kernel
theorem dd_L_149 : decode code 149 = .ok (.iload_n 3, 1) := by decide +kernel
theorem dd_L_150 : decode code 150 = .ok (.iconst 1, 1) := by decide +kernel
theorem dd_L_151 : decode code 151 = .ok (.iadd, 1) := by decide +kernel
theorem dd_L_152 : decode code 152 = .ok (.iaload, 1) := by decide +kernel
theorem dd_L_153 : decode code 153 = .ok (.aload_n 0, 1) := by decide +kernel
theorem dd_L_154 : decode code 154 = .ok (.iload_n 3, 1) := by decide +kernel
theorem dd_L_155 : decode code 155 = .ok (.iconst 2, 1) := by decide +kernel
theorem dd_L_156 : decode code 156 = .ok (.iadd, 1) := by decide +kernel
theorem dd_L_157 : decode code 157 = .ok (.iaload, 1) := by decide +kernel
theorem dd_L_158 : decode code 158 = .ok (.aload_n 0, 1) := by decide +kernel
theorem dd_L_159 : decode code 159 = .ok (.iload_n 3, 1) := by decide +kernel
theorem dd_L_160 : decode code 160 = .ok (.iconst 3, 1) := by decide +kernel
theorem dd_L_161 : decode code 161 = .ok (.iadd, 1) := by decide +kernel
theorem dd_L_162 : decode code 162 = .ok (.iaload, 1) := by decide +kernel
theorem dd_L_163 : decode code 163 = .ok (.invokevirtual 18, 3) := by decide +kernel
theorem dd_L_166 : decode code 166 = .ok (.aload_n 2, 1) := by decide +kernel
theorem dd_L_167 : decode code 167 = .ok (.aload_n 0, 1) := by decide +kernel
theorem dd_L_168 : decode code 168 = .ok (.iload_n 3, 1) := by decide +kernel
theorem dd_L_169 : decode code 169 = .ok (.iconst 1, 1) := by decide +kernel
theorem dd_L_170 : decode code 170 = .ok (.iadd, 1) := by decide +kernel
theorem dd_L_171 : decode code 171 = .ok (.iaload, 1) := by decide +kernel
theorem dd_L_172 : decode code 172 = .ok (.aload_n 0, 1) := by decide +kernel
theorem dd_L_173 : decode code 173 = .ok (.iload_n 3, 1) := by decide +kernel
theorem dd_L_174 : decode code 174 = .ok (.iconst 2, 1) := by decide +kernel
theorem dd_L_175 : decode code 175 = .ok (.iadd, 1) := by decide +kernel
theorem dd_L_176 : decode code 176 = .ok (.iaload, 1) := by decide +kernel
theorem dd_L_177 : decode code 177 = .ok (.aload_n 0, 1) := by decide +kernel
theorem dd_L_178 : decode code 178 = .ok (.iload_n 3, 1) := by decide +kernel
theorem dd_L_179 : decode code 179 = .ok (.iconst 3, 1) := by decide +kernel
theorem dd_L_180 : decode code 180 = .ok (.iadd, 1) := by decide +kernel
theorem dd_L_181 : decode code 181 = .ok (.iaload, 1) := by decide +kernel
theorem dd_L_182 : decode code 182 = .ok (.invokevirtual 22, 3) := by decide +kernel
theorem dd_L_185 : decode code 185 = .ok (.if_icmp .eq 456, 3) := by decide +kernel
theorem dd_L_188 : decode code 188 = .ok (.iconst 0, 1) := by decide +kernel
theorem dd_L_189 : decode code 189 = .ok (.ireturn, 1) := by decide +kernel
theorem dd_L_190 : decode code 190 = .ok (.aload_n 1, 1) := by decide +kernel
theorem dd_L_191 : decode code 191 = .ok (.aload_n 0, 1) := by decide +kernel
theorem dd_L_192 : decode code 192 = .ok (.iload_n 3, 1) := by decide +kernel
theorem dd_L_193 : decode code 193 = .ok (.iconst 1, 1) := by decide +kernel
theorem dd_L_194 : decode code 194 = .ok (.iadd, 1) := by decide +kernel
theorem dd_L_195 : decode code 195 = .ok (.iaload, 1) := by decide +kernel
theorem dd_L_196 : decode code 196 = .ok (.aload_n 0, 1) := by decide +kernel
theorem dd_L_197 : decode code 197 = .ok (.iload_n 3, 1) := by decide +kernel
theorem dd_L_198 : decode code 198 = .ok (.iconst 2, 1) := by decide +kernel
theorem dd_L_199 : decode code 199 = .ok (.iadd, 1) := by decide +kernel
theorem dd_L_200 : decode code 200 = .ok (.iaload, 1) := by decide +kernel
theorem dd_L_201 : decode code 201 = .ok (.aload_n 0, 1) := by decide +kernel
theorem dd_L_202 : decode code 202 = .ok (.iload_n 3, 1) := by decide +kernel
theorem dd_L_203 : decode code 203 = .ok (.iconst 3, 1) := by decide +kernel
theorem dd_L_204 : decode code 204 = .ok (.iadd, 1) := by decide +kernel
theorem dd_L_205 : decode code 205 = .ok (.iaload, 1) := by decide +kernel
theorem dd_L_206 : decode code 206 = .ok (.invokevirtual 23, 3) := by decide +kernel
theorem dd_L_209 : decode code 209 = .ok (.aload_n 2, 1) := by decide +kernel
theorem dd_L_210 : decode code 210 = .ok (.aload_n 0, 1) := by decide +kernel
theorem dd_L_211 : decode code 211 = .ok (.iload_n 3, 1) := by decide +kernel
theorem dd_L_212 : decode code 212 = .ok (.iconst 1, 1) := by decide +kernel
theorem dd_L_213 : decode code 213 = .ok (.iadd, 1) := by decide +kernel
theorem dd_L_214 : decode code 214 = .ok (.iaload, 1) := by decide +kernel
theorem dd_L_215 : decode code 215 = .ok (.aload_n 0, 1) := by decide +kernel
theorem dd_L_216 : decode code 216 = .ok (.iload_n 3, 1) := by decide +kernel
theorem dd_L_217 : decode code 217 = .ok (.iconst 2, 1) := by decide +kernel
theorem dd_L_218 : decode code 218 = .ok (.iadd, 1) := by decide +kernel
theorem dd_L_219 : decode code 219 = .ok (.iaload, 1) := by decide +kernel
theorem dd_L_220 : decode code 220 = .ok (.aload_n 0, 1) := by decide +kernel
theorem dd_L_221 : decode code 221 = .ok (.iload_n 3, 1) := by decide +kernel
theorem dd_L_222 : decode code 222 = .ok (.iconst 3, 1) := by decide +kernel
theorem dd_L_223 : decode code 223 = .ok (.iadd, 1) := by decide +kernel
theorem dd_L_224 : decode code 224 = .ok (.iaload, 1) := by decide +kernel
theorem dd_L_225 : decode code 225 = .ok (.invokevirtual 26, 3) := by decide +kernel
theorem dd_L_228 : decode code 228 = .ok (.if_icmp .eq 413, 3) := by decide +kernel
theorem dd_L_231 : decode code 231 = .ok (.iconst 0, 1) := by decide +kernel
theorem dd_L_232 : decode code 232 = .ok (.ireturn, 1) := by decide +kernel
theorem dd_L_233 : decode code 233 = .ok (.aload_n 1, 1) := by decide +kernel
theorem dd_L_234 : decode code 234 = .ok (.invokevirtual 27, 3) := by decide +kernel
theorem dd_L_237 : decode code 237 = .ok (.aload_n 2, 1) := by decide +kernel
theorem dd_L_238 : decode code 238 = .ok (.invokevirtual 31, 3) := by decide +kernel
theorem dd_L_241 : decode code 241 = .ok (.if_icmp .eq 400, 3) := by decide +kernel
theorem dd_L_244 : decode code 244 = .ok (.iconst 0, 1) := by decide +kernel
theorem dd_L_245 : decode code 245 = .ok (.ireturn, 1) := by decide +kernel
theorem dd_L_246 : decode code 246 = .ok (.aload_n 1, 1) := by decide +kernel
theorem dd_L_247 : decode code 247 = .ok (.aload_n 0, 1) := by decide +kernel
theorem dd_L_248 : decode code 248 = .ok (.iload_n 3, 1) := by decide +kernel
theorem dd_L_249 : decode code 249 = .ok (.iconst 1, 1) := by decide +kernel
theorem dd_L_250 : decode code 250 = .ok (.iadd, 1) := by decide +kernel
theorem dd_L_251 : decode code 251 = .ok (.iaload, 1) := by decide +kernel
theorem dd_L_252 : decode code 252 = .ok (.invokevirtual 32, 3) := by decide +kernel
theorem dd_L_255 : decode code 255 = .ok (.aload_n 2, 1) := by decide +kernel
theorem dd_L_256 : decode code 256 = .ok (.aload_n 0, 1) := by decide +kernel
theorem dd_L_257 : decode code 257 = .ok (.iload_n 3, 1) := by decide +kernel
theorem dd_L_258 : decode code 258 = .ok (.iconst 1, 1) := by decide +kernel
theorem dd_L_259 : decode code 259 = .ok (.iadd, 1) := by decide +kernel
theorem dd_L_260 : decode code 260 = .ok (.iaload, 1) := by decide +kernel
theorem dd_L_261 : decode code 261 = .ok (.invokevirtual 35, 3) := by decide +kernel
theorem dd_L_264 : decode code 264 = .ok (.if_icmp .eq 377, 3) := by decide +kernel
theorem dd_L_267 : decode code 267 = .ok (.iconst 0, 1) := by decide +kernel
theorem dd_L_268 : decode code 268 = .ok (.ireturn, 1) := by decide +kernel
theorem dd_L_269 : decode code 269 = .ok (.aload_n 1, 1) := by decide +kernel
theorem dd_L_270 : decode code 270 = .ok (.invokevirtual 36, 3) := by decide +kernel
theorem dd_L_273 : decode code 273 = .ok (.aload_n 2, 1) := by decide +kernel
theorem dd_L_274 : decode code 274 = .ok (.invokevirtual 39, 3) := by decide +kernel
theorem dd_L_277 : decode code 277 = .ok (.if_icmp .eq 364, 3) := by decide +kernel
theorem dd_L_280 : decode code 280 = .ok (.iconst 0, 1) := by decide +kernel
theorem dd_L_281 : decode code 281 = .ok (.ireturn, 1) := by decide +kernel
theorem dd_L_282 : decode code 282 = .ok (.aload_n 1, 1) := by decide +kernel
theorem dd_L_283 : decode code 283 = .ok (.aload_n 0, 1) := by decide +kernel
theorem dd_L_284 : decode code 284 = .ok (.iload_n 3, 1) := by decide +kernel
theorem dd_L_285 : decode code 285 = .ok (.iconst 1, 1) := by decide +kernel
theorem dd_L_286 : decode code 286 = .ok (.iadd, 1) := by decide +kernel
theorem dd_L_287 : decode code 287 = .ok (.iaload, 1) := by decide +kernel
theorem dd_L_288 : decode code 288 = .ok (.invokevirtual 40, 3) := by decide +kernel
theorem dd_L_291 : decode code 291 = .ok (.aload_n 2, 1) := by decide +kernel
theorem dd_L_292 : decode code 292 = .ok (.aload_n 0, 1) := by decide +kernel
theorem dd_L_293 : decode code 293 = .ok (.iload_n 3, 1) := by decide +kernel
theorem dd_L_294 : decode code 294 = .ok (.iconst 1, 1) := by decide +kernel
theorem dd_L_295 : decode code 295 = .ok (.iadd, 1) := by decide +kernel
theorem dd_L_296 : decode code 296 = .ok (.iaload, 1) := by decide +kernel
theorem dd_L_297 : decode code 297 = .ok (.invokevirtual 43, 3) := by decide +kernel
theorem dd_L_300 : decode code 300 = .ok (.if_icmp .eq 341, 3) := by decide +kernel
theorem dd_L_303 : decode code 303 = .ok (.iconst 0, 1) := by decide +kernel
theorem dd_L_304 : decode code 304 = .ok (.ireturn, 1) := by decide +kernel
theorem dd_L_305 : decode code 305 = .ok (.aload_n 1, 1) := by decide +kernel
theorem dd_L_306 : decode code 306 = .ok (.aload_n 0, 1) := by decide +kernel
theorem dd_L_307 : decode code 307 = .ok (.iload_n 3, 1) := by decide +kernel
theorem dd_L_308 : decode code 308 = .ok (.iconst 1, 1) := by decide +kernel
theorem dd_L_309 : decode code 309 = .ok (.iadd, 1) := by decide +kernel
theorem dd_L_310 : decode code 310 = .ok (.iaload, 1) := by decide +kernel
theorem dd_L_311 : decode code 311 = .ok (.aload_n 0, 1) := by decide +kernel
theorem dd_L_312 : decode code 312 = .ok (.iload_n 3, 1) := by decide +kernel
theorem dd_L_313 : decode code 313 = .ok (.iconst 2, 1) := by decide +kernel
theorem dd_L_314 : decode code 314 = .ok (.iadd, 1) := by decide +kernel
theorem dd_L_315 : decode code 315 = .ok (.iaload, 1) := by decide +kernel
theorem dd_L_316 : decode code 316 = .ok (.invokevirtual 44, 3) := by decide +kernel
theorem dd_L_319 : decode code 319 = .ok (.aload_n 2, 1) := by decide +kernel
theorem dd_L_320 : decode code 320 = .ok (.aload_n 0, 1) := by decide +kernel
theorem dd_L_321 : decode code 321 = .ok (.iload_n 3, 1) := by decide +kernel
theorem dd_L_322 : decode code 322 = .ok (.iconst 1, 1) := by decide +kernel
theorem dd_L_323 : decode code 323 = .ok (.iadd, 1) := by decide +kernel
theorem dd_L_324 : decode code 324 = .ok (.iaload, 1) := by decide +kernel
theorem dd_L_325 : decode code 325 = .ok (.aload_n 0, 1) := by decide +kernel
theorem dd_L_326 : decode code 326 = .ok (.iload_n 3, 1) := by decide +kernel
theorem dd_L_327 : decode code 327 = .ok (.iconst 2, 1) := by decide +kernel
theorem dd_L_328 : decode code 328 = .ok (.iadd, 1) := by decide +kernel
theorem dd_L_329 : decode code 329 = .ok (.iaload, 1) := by decide +kernel
theorem dd_L_330 : decode code 330 = .ok (.invokevirtual 48, 3) := by decide +kernel
theorem dd_L_333 : decode code 333 = .ok (.if_icmp .eq 308, 3) := by decide +kernel
theorem dd_L_336 : decode code 336 = .ok (.iconst 0, 1) := by decide +kernel
theorem dd_L_337 : decode code 337 = .ok (.ireturn, 1) := by decide +kernel
theorem dd_L_338 : decode code 338 = .ok (.aload_n 1, 1) := by decide +kernel
theorem dd_L_339 : decode code 339 = .ok (.aload_n 0, 1) := by decide +kernel
theorem dd_L_340 : decode code 340 = .ok (.iload_n 3, 1) := by decide +kernel
theorem dd_L_341 : decode code 341 = .ok (.iconst 1, 1) := by decide +kernel
theorem dd_L_342 : decode code 342 = .ok (.iadd, 1) := by decide +kernel
theorem dd_L_343 : decode code 343 = .ok (.iaload, 1) := by decide +kernel
theorem dd_L_344 : decode code 344 = .ok (.aload_n 0, 1) := by decide +kernel
theorem dd_L_345 : decode code 345 = .ok (.iload_n 3, 1) := by decide +kernel
theorem dd_L_346 : decode code 346 = .ok (.iconst 2, 1) := by decide +kernel
theorem dd_L_347 : decode code 347 = .ok (.iadd, 1) := by decide +kernel
theorem dd_L_348 : decode code 348 = .ok (.iaload, 1) := by decide +kernel
theorem dd_L_349 : decode code 349 = .ok (.invokevirtual 49, 3) := by decide +kernel
theorem dd_L_352 : decode code 352 = .ok (.aload_n 2, 1) := by decide +kernel
theorem dd_L_353 : decode code 353 = .ok (.aload_n 0, 1) := by decide +kernel
theorem dd_L_354 : decode code 354 = .ok (.iload_n 3, 1) := by decide +kernel
theorem dd_L_355 : decode code 355 = .ok (.iconst 1, 1) := by decide +kernel
theorem dd_L_356 : decode code 356 = .ok (.iadd, 1) := by decide +kernel
theorem dd_L_357 : decode code 357 = .ok (.iaload, 1) := by decide +kernel
theorem dd_L_358 : decode code 358 = .ok (.aload_n 0, 1) := by decide +kernel
theorem dd_L_359 : decode code 359 = .ok (.iload_n 3, 1) := by decide +kernel
theorem dd_L_360 : decode code 360 = .ok (.iconst 2, 1) := by decide +kernel
theorem dd_L_361 : decode code 361 = .ok (.iadd, 1) := by decide +kernel
theorem dd_L_362 : decode code 362 = .ok (.iaload, 1) := by decide +kernel
theorem dd_L_363 : decode code 363 = .ok (.invokevirtual 52, 3) := by decide +kernel
theorem dd_L_366 : decode code 366 = .ok (.if_icmp .eq 275, 3) := by decide +kernel
theorem dd_L_369 : decode code 369 = .ok (.iconst 0, 1) := by decide +kernel
theorem dd_L_370 : decode code 370 = .ok (.ireturn, 1) := by decide +kernel
theorem dd_L_371 : decode code 371 = .ok (.aload_n 1, 1) := by decide +kernel
theorem dd_L_372 : decode code 372 = .ok (.aload_n 0, 1) := by decide +kernel
theorem dd_L_373 : decode code 373 = .ok (.iload_n 3, 1) := by decide +kernel
theorem dd_L_374 : decode code 374 = .ok (.iconst 1, 1) := by decide +kernel
theorem dd_L_375 : decode code 375 = .ok (.iadd, 1) := by decide +kernel
theorem dd_L_376 : decode code 376 = .ok (.iaload, 1) := by decide +kernel
theorem dd_L_377 : decode code 377 = .ok (.invokevirtual 53, 3) := by decide +kernel
theorem dd_L_380 : decode code 380 = .ok (.aload_n 2, 1) := by decide +kernel
theorem dd_L_381 : decode code 381 = .ok (.aload_n 0, 1) := by decide +kernel
theorem dd_L_382 : decode code 382 = .ok (.iload_n 3, 1) := by decide +kernel
theorem dd_L_383 : decode code 383 = .ok (.iconst 1, 1) := by decide +kernel
theorem dd_L_384 : decode code 384 = .ok (.iadd, 1) := by decide +kernel
theorem dd_L_385 : decode code 385 = .ok (.iaload, 1) := by decide +kernel
theorem dd_L_386 : decode code 386 = .ok (.invokevirtual 56, 3) := by decide +kernel
theorem dd_L_389 : decode code 389 = .ok (.if_icmp .eq 252, 3) := by decide +kernel
theorem dd_L_392 : decode code 392 = .ok (.iconst 0, 1) := by decide +kernel
theorem dd_L_393 : decode code 393 = .ok (.ireturn, 1) := by decide +kernel
theorem dd_L_394 : decode code 394 = .ok (.aload_n 1, 1) := by decide +kernel
theorem dd_L_395 : decode code 395 = .ok (.aload_n 0, 1) := by decide +kernel
theorem dd_L_396 : decode code 396 = .ok (.iload_n 3, 1) := by decide +kernel
theorem dd_L_397 : decode code 397 = .ok (.iconst 1, 1) := by decide +kernel
theorem dd_L_398 : decode code 398 = .ok (.iadd, 1) := by decide +kernel
theorem dd_L_399 : decode code 399 = .ok (.iaload, 1) := by decide +kernel
theorem dd_L_400 : decode code 400 = .ok (.aload_n 0, 1) := by decide +kernel
theorem dd_L_401 : decode code 401 = .ok (.iload_n 3, 1) := by decide +kernel
theorem dd_L_402 : decode code 402 = .ok (.iconst 2, 1) := by decide +kernel
theorem dd_L_403 : decode code 403 = .ok (.iadd, 1) := by decide +kernel
theorem dd_L_404 : decode code 404 = .ok (.iaload, 1) := by decide +kernel
theorem dd_L_405 : decode code 405 = .ok (.invokevirtual 57, 3) := by decide +kernel
theorem dd_L_408 : decode code 408 = .ok (.aload_n 2, 1) := by decide +kernel
theorem dd_L_409 : decode code 409 = .ok (.aload_n 0, 1) := by decide +kernel
theorem dd_L_410 : decode code 410 = .ok (.iload_n 3, 1) := by decide +kernel
theorem dd_L_411 : decode code 411 = .ok (.iconst 1, 1) := by decide +kernel
theorem dd_L_412 : decode code 412 = .ok (.iadd, 1) := by decide +kernel
theorem dd_L_413 : decode code 413 = .ok (.iaload, 1) := by decide +kernel
theorem dd_L_414 : decode code 414 = .ok (.aload_n 0, 1) := by decide +kernel
theorem dd_L_415 : decode code 415 = .ok (.iload_n 3, 1) := by decide +kernel
theorem dd_L_416 : decode code 416 = .ok (.iconst 2, 1) := by decide +kernel
theorem dd_L_417 : decode code 417 = .ok (.iadd, 1) := by decide +kernel
theorem dd_L_418 : decode code 418 = .ok (.iaload, 1) := by decide +kernel
theorem dd_L_419 : decode code 419 = .ok (.invokevirtual 60, 3) := by decide +kernel
theorem dd_L_422 : decode code 422 = .ok (.if_icmp .eq 219, 3) := by decide +kernel
theorem dd_L_425 : decode code 425 = .ok (.iconst 0, 1) := by decide +kernel
theorem dd_L_426 : decode code 426 = .ok (.ireturn, 1) := by decide +kernel
theorem dd_L_427 : decode code 427 = .ok (.aload_n 1, 1) := by decide +kernel
theorem dd_L_428 : decode code 428 = .ok (.aload_n 0, 1) := by decide +kernel
theorem dd_L_429 : decode code 429 = .ok (.iload_n 3, 1) := by decide +kernel
theorem dd_L_430 : decode code 430 = .ok (.iconst 1, 1) := by decide +kernel
theorem dd_L_431 : decode code 431 = .ok (.iadd, 1) := by decide +kernel
theorem dd_L_432 : decode code 432 = .ok (.iaload, 1) := by decide +kernel
theorem dd_L_433 : decode code 433 = .ok (.invokevirtual 61, 3) := by decide +kernel
theorem dd_L_436 : decode code 436 = .ok (.aload_n 2, 1) := by decide +kernel
theorem dd_L_437 : decode code 437 = .ok (.aload_n 0, 1) := by decide +kernel
theorem dd_L_438 : decode code 438 = .ok (.iload_n 3, 1) := by decide +kernel
theorem dd_L_439 : decode code 439 = .ok (.iconst 1, 1) := by decide +kernel
theorem dd_L_440 : decode code 440 = .ok (.iadd, 1) := by decide +kernel
theorem dd_L_441 : decode code 441 = .ok (.iaload, 1) := by decide +kernel
theorem dd_L_442 : decode code 442 = .ok (.invokevirtual 64, 3) := by decide +kernel
theorem dd_L_445 : decode code 445 = .ok (.if_icmp .eq 196, 3) := by decide +kernel
theorem dd_L_448 : decode code 448 = .ok (.iconst 0, 1) := by decide +kernel
theorem dd_L_449 : decode code 449 = .ok (.ireturn, 1) := by decide +kernel
theorem dd_L_450 : decode code 450 = .ok (.aload_n 1, 1) := by decide +kernel
theorem dd_L_451 : decode code 451 = .ok (.aload_n 0, 1) := by decide +kernel
theorem dd_L_452 : decode code 452 = .ok (.iload_n 3, 1) := by decide +kernel
theorem dd_L_453 : decode code 453 = .ok (.iconst 1, 1) := by decide +kernel
theorem dd_L_454 : decode code 454 = .ok (.iadd, 1) := by decide +kernel
theorem dd_L_455 : decode code 455 = .ok (.iaload, 1) := by decide +kernel
theorem dd_L_456 : decode code 456 = .ok (.aload_n 0, 1) := by decide +kernel
theorem dd_L_457 : decode code 457 = .ok (.iload_n 3, 1) := by decide +kernel
theorem dd_L_458 : decode code 458 = .ok (.iconst 2, 1) := by decide +kernel
theorem dd_L_459 : decode code 459 = .ok (.iadd, 1) := by decide +kernel
theorem dd_L_460 : decode code 460 = .ok (.iaload, 1) := by decide +kernel
theorem dd_L_461 : decode code 461 = .ok (.invokevirtual 65, 3) := by decide +kernel
theorem dd_L_464 : decode code 464 = .ok (.aload_n 2, 1) := by decide +kernel
theorem dd_L_465 : decode code 465 = .ok (.aload_n 0, 1) := by decide +kernel
theorem dd_L_466 : decode code 466 = .ok (.iload_n 3, 1) := by decide +kernel
theorem dd_L_467 : decode code 467 = .ok (.iconst 1, 1) := by decide +kernel
theorem dd_L_468 : decode code 468 = .ok (.iadd, 1) := by decide +kernel
theorem dd_L_469 : decode code 469 = .ok (.iaload, 1) := by decide +kernel
theorem dd_L_470 : decode code 470 = .ok (.aload_n 0, 1) := by decide +kernel
theorem dd_L_471 : decode code 471 = .ok (.iload_n 3, 1) := by decide +kernel
theorem dd_L_472 : decode code 472 = .ok (.iconst 2, 1) := by decide +kernel
theorem dd_L_473 : decode code 473 = .ok (.iadd, 1) := by decide +kernel
theorem dd_L_474 : decode code 474 = .ok (.iaload, 1) := by decide +kernel
theorem dd_L_475 : decode code 475 = .ok (.invokevirtual 68, 3) := by decide +kernel
theorem dd_L_478 : decode code 478 = .ok (.if_icmp .eq 163, 3) := by decide +kernel
theorem dd_L_481 : decode code 481 = .ok (.iconst 0, 1) := by decide +kernel
theorem dd_L_482 : decode code 482 = .ok (.ireturn, 1) := by decide +kernel
theorem dd_L_483 : decode code 483 = .ok (.aload_n 1, 1) := by decide +kernel
theorem dd_L_484 : decode code 484 = .ok (.aload_n 0, 1) := by decide +kernel
theorem dd_L_485 : decode code 485 = .ok (.iload_n 3, 1) := by decide +kernel
theorem dd_L_486 : decode code 486 = .ok (.iconst 1, 1) := by decide +kernel
theorem dd_L_487 : decode code 487 = .ok (.iadd, 1) := by decide +kernel
theorem dd_L_488 : decode code 488 = .ok (.iaload, 1) := by decide +kernel
theorem dd_L_489 : decode code 489 = .ok (.aload_n 0, 1) := by decide +kernel
theorem dd_L_490 : decode code 490 = .ok (.iload_n 3, 1) := by decide +kernel
theorem dd_L_491 : decode code 491 = .ok (.iconst 2, 1) := by decide +kernel
theorem dd_L_492 : decode code 492 = .ok (.iadd, 1) := by decide +kernel
theorem dd_L_493 : decode code 493 = .ok (.iaload, 1) := by decide +kernel
theorem dd_L_494 : decode code 494 = .ok (.invokevirtual 69, 3) := by decide +kernel
theorem dd_L_497 : decode code 497 = .ok (.aload_n 2, 1) := by decide +kernel
theorem dd_L_498 : decode code 498 = .ok (.aload_n 0, 1) := by decide +kernel
theorem dd_L_499 : decode code 499 = .ok (.iload_n 3, 1) := by decide +kernel
theorem dd_L_500 : decode code 500 = .ok (.iconst 1, 1) := by decide +kernel
theorem dd_L_501 : decode code 501 = .ok (.iadd, 1) := by decide +kernel
theorem dd_L_502 : decode code 502 = .ok (.iaload, 1) := by decide +kernel
theorem dd_L_503 : decode code 503 = .ok (.aload_n 0, 1) := by decide +kernel
theorem dd_L_504 : decode code 504 = .ok (.iload_n 3, 1) := by decide +kernel
theorem dd_L_505 : decode code 505 = .ok (.iconst 2, 1) := by decide +kernel
theorem dd_L_506 : decode code 506 = .ok (.iadd, 1) := by decide +kernel
theorem dd_L_507 : decode code 507 = .ok (.iaload, 1) := by decide +kernel
theorem dd_L_508 : decode code 508 = .ok (.invokevirtual 72, 3) := by decide +kernel
theorem dd_L_511 : decode code 511 = .ok (.if_icmp .eq 130, 3) := by decide +kernel
theorem dd_L_514 : decode code 514 = .ok (.iconst 0, 1) := by decide +kernel
theorem dd_L_515 : decode code 515 = .ok (.ireturn, 1) := by decide +kernel
theorem dd_L_516 : decode code 516 = .ok (.aload_n 1, 1) := by decide +kernel
theorem dd_L_517 : decode code 517 = .ok (.aload_n 0, 1) := by decide +kernel
theorem dd_L_518 : decode code 518 = .ok (.iload_n 3, 1) := by decide +kernel
theorem dd_L_519 : decode code 519 = .ok (.iconst 1, 1) := by decide +kernel
theorem dd_L_520 : decode code 520 = .ok (.iadd, 1) := by decide +kernel
theorem dd_L_521 : decode code 521 = .ok (.iaload, 1) := by decide +kernel
theorem dd_L_522 : decode code 522 = .ok (.invokevirtual 73, 3) := by decide +kernel
theorem dd_L_525 : decode code 525 = .ok (.aload_n 2, 1) := by decide +kernel
theorem dd_L_526 : decode code 526 = .ok (.aload_n 0, 1) := by decide +kernel
theorem dd_L_527 : decode code 527 = .ok (.iload_n 3, 1) := by decide +kernel
theorem dd_L_528 : decode code 528 = .ok (.iconst 1, 1) := by decide +kernel
theorem dd_L_529 : decode code 529 = .ok (.iadd, 1) := by decide +kernel
theorem dd_L_530 : decode code 530 = .ok (.iaload, 1) := by decide +kernel
theorem dd_L_531 : decode code 531 = .ok (.invokevirtual 76, 3) := by decide +kernel
theorem dd_L_534 : decode code 534 = .ok (.if_icmp .eq 107, 3) := by decide +kernel
theorem dd_L_537 : decode code 537 = .ok (.iconst 0, 1) := by decide +kernel
theorem dd_L_538 : decode code 538 = .ok (.ireturn, 1) := by decide +kernel
theorem dd_L_539 : decode code 539 = .ok (.aload_n 1, 1) := by decide +kernel
theorem dd_L_540 : decode code 540 = .ok (.aload_n 0, 1) := by decide +kernel
theorem dd_L_541 : decode code 541 = .ok (.iload_n 3, 1) := by decide +kernel
theorem dd_L_542 : decode code 542 = .ok (.iconst 1, 1) := by decide +kernel
theorem dd_L_543 : decode code 543 = .ok (.iadd, 1) := by decide +kernel
theorem dd_L_544 : decode code 544 = .ok (.iaload, 1) := by decide +kernel
theorem dd_L_545 : decode code 545 = .ok (.aload_n 0, 1) := by decide +kernel
theorem dd_L_546 : decode code 546 = .ok (.iload_n 3, 1) := by decide +kernel
theorem dd_L_547 : decode code 547 = .ok (.iconst 2, 1) := by decide +kernel
theorem dd_L_548 : decode code 548 = .ok (.iadd, 1) := by decide +kernel
theorem dd_L_549 : decode code 549 = .ok (.iaload, 1) := by decide +kernel
theorem dd_L_550 : decode code 550 = .ok (.invokevirtual 77, 3) := by decide +kernel
theorem dd_L_553 : decode code 553 = .ok (.aload_n 2, 1) := by decide +kernel
theorem dd_L_554 : decode code 554 = .ok (.aload_n 0, 1) := by decide +kernel
theorem dd_L_555 : decode code 555 = .ok (.iload_n 3, 1) := by decide +kernel
theorem dd_L_556 : decode code 556 = .ok (.iconst 1, 1) := by decide +kernel
theorem dd_L_557 : decode code 557 = .ok (.iadd, 1) := by decide +kernel
theorem dd_L_558 : decode code 558 = .ok (.iaload, 1) := by decide +kernel
theorem dd_L_559 : decode code 559 = .ok (.aload_n 0, 1) := by decide +kernel
theorem dd_L_560 : decode code 560 = .ok (.iload_n 3, 1) := by decide +kernel
theorem dd_L_561 : decode code 561 = .ok (.iconst 2, 1) := by decide +kernel
theorem dd_L_562 : decode code 562 = .ok (.iadd, 1) := by decide +kernel
theorem dd_L_563 : decode code 563 = .ok (.iaload, 1) := by decide +kernel
theorem dd_L_564 : decode code 564 = .ok (.invokevirtual 80, 3) := by decide +kernel
theorem dd_L_567 : decode code 567 = .ok (.if_icmp .eq 74, 3) := by decide +kernel
theorem dd_L_570 : decode code 570 = .ok (.iconst 0, 1) := by decide +kernel
theorem dd_L_571 : decode code 571 = .ok (.ireturn, 1) := by decide +kernel
theorem dd_L_572 : decode code 572 = .ok (.aload_n 1, 1) := by decide +kernel
theorem dd_L_573 : decode code 573 = .ok (.aload_n 0, 1) := by decide +kernel
theorem dd_L_574 : decode code 574 = .ok (.iload_n 3, 1) := by decide +kernel
theorem dd_L_575 : decode code 575 = .ok (.iconst 1, 1) := by decide +kernel
theorem dd_L_576 : decode code 576 = .ok (.iadd, 1) := by decide +kernel
theorem dd_L_577 : decode code 577 = .ok (.iaload, 1) := by decide +kernel
theorem dd_L_578 : decode code 578 = .ok (.invokevirtual 81, 3) := by decide +kernel
theorem dd_L_581 : decode code 581 = .ok (.aload_n 2, 1) := by decide +kernel
theorem dd_L_582 : decode code 582 = .ok (.aload_n 0, 1) := by decide +kernel
theorem dd_L_583 : decode code 583 = .ok (.iload_n 3, 1) := by decide +kernel
theorem dd_L_584 : decode code 584 = .ok (.iconst 1, 1) := by decide +kernel
theorem dd_L_585 : decode code 585 = .ok (.iadd, 1) := by decide +kernel
theorem dd_L_586 : decode code 586 = .ok (.iaload, 1) := by decide +kernel
theorem dd_L_587 : decode code 587 = .ok (.invokevirtual 84, 3) := by decide +kernel
theorem dd_L_590 : decode code 590 = .ok (.if_icmp .eq 51, 3) := by decide +kernel
theorem dd_L_593 : decode code 593 = .ok (.iconst 0, 1) := by decide +kernel
theorem dd_L_594 : decode code 594 = .ok (.ireturn, 1) := by decide +kernel
theorem dd_L_595 : decode code 595 = .ok (.aload_n 1, 1) := by decide +kernel
theorem dd_L_596 : decode code 596 = .ok (.aload_n 0, 1) := by decide +kernel
theorem dd_L_597 : decode code 597 = .ok (.iload_n 3, 1) := by decide +kernel
theorem dd_L_598 : decode code 598 = .ok (.iconst 1, 1) := by decide +kernel
theorem dd_L_599 : decode code 599 = .ok (.iadd, 1) := by decide +kernel
theorem dd_L_600 : decode code 600 = .ok (.iaload, 1) := by decide +kernel
theorem dd_L_601 : decode code 601 = .ok (.invokevirtual 85, 3) := by decide +kernel
theorem dd_L_604 : decode code 604 = .ok (.aload_n 2, 1) := by decide +kernel
theorem dd_L_605 : decode code 605 = .ok (.aload_n 0, 1) := by decide +kernel
theorem dd_L_606 : decode code 606 = .ok (.iload_n 3, 1) := by decide +kernel
theorem dd_L_607 : decode code 607 = .ok (.iconst 1, 1) := by decide +kernel
theorem dd_L_608 : decode code 608 = .ok (.iadd, 1) := by decide +kernel
theorem dd_L_609 : decode code 609 = .ok (.iaload, 1) := by decide +kernel
theorem dd_L_610 : decode code 610 = .ok (.invokevirtual 88, 3) := by decide +kernel
theorem dd_L_613 : decode code 613 = .ok (.if_icmp .eq 28, 3) := by decide +kernel
theorem dd_L_616 : decode code 616 = .ok (.iconst 0, 1) := by decide +kernel
theorem dd_L_617 : decode code 617 = .ok (.ireturn, 1) := by decide +kernel
theorem dd_L_618 : decode code 618 = .ok (.aload_n 1, 1) := by decide +kernel
theorem dd_L_619 : decode code 619 = .ok (.aload_n 0, 1) := by decide +kernel
theorem dd_L_620 : decode code 620 = .ok (.iload_n 3, 1) := by decide +kernel
theorem dd_L_621 : decode code 621 = .ok (.iconst 1, 1) := by decide +kernel
theorem dd_L_622 : decode code 622 = .ok (.iadd, 1) := by decide +kernel
theorem dd_L_623 : decode code 623 = .ok (.iaload, 1) := by decide +kernel
theorem dd_L_624 : decode code 624 = .ok (.invokevirtual 89, 3) := by decide +kernel
theorem dd_L_627 : decode code 627 = .ok (.aload_n 2, 1) := by decide +kernel
theorem dd_L_628 : decode code 628 = .ok (.aload_n 0, 1) := by decide +kernel
theorem dd_L_629 : decode code 629 = .ok (.iload_n 3, 1) := by decide +kernel
theorem dd_L_630 : decode code 630 = .ok (.iconst 1, 1) := by decide +kernel
theorem dd_L_631 : decode code 631 = .ok (.iadd, 1) := by decide +kernel
theorem dd_L_632 : decode code 632 = .ok (.iaload, 1) := by decide +kernel
theorem dd_L_633 : decode code 633 = .ok (.invokevirtual 92, 3) := by decide +kernel
theorem dd_L_636 : decode code 636 = .ok (.if_icmp .eq 5, 3) := by decide +kernel
theorem dd_L_639 : decode code 639 = .ok (.iconst 0, 1) := by decide +kernel
theorem dd_L_640 : decode code 640 = .ok (.ireturn, 1) := by decide +kernel
theorem dd_L_641 : decode code 641 = .ok (.iinc 3 4, 3) := by decide +kernel
theorem dd_L_644 : decode code 644 = .ok (.goto (-626), 3) := by decide +kernel
theorem dd_L_647 : decode code 647 = .ok (.iconst 1, 1) := by decide +kernel
theorem dd_L_648 : decode code 648 = .ok (.ireturn, 1) := by decide +kernel
