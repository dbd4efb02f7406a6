theorem dX12_isInRun_13 : decode cX12_isInRun 13 = .ok (.getfield 21, 3) := by decide +kernel
theorem dX12_isInRun_16 : decode cX12_isInRun 16 = .ok (.iload_n 2, 1) := by decide +kernel
theorem dX12_isInRun_17 : decode cX12_isInRun 17 = .ok (.iaload, 1) := by decide +kernel
theorem dX12_isInRun_18 : decode cX12_isInRun 18 = .ok (.iload 5, 2) := by decide +kernel
theorem dX12_isInRun_20 : decode cX12_isInRun 20 = .ok (.invokestatic 90, 3) := by decide +kernel
theorem dX12_isInRun_23 : decode cX12_isInRun 23 = .ok (.iload_n 3, 1) := by decide +kernel
theorem dX12_isInRun_24 : decode cX12_isInRun 24 = .ok (.invokevirtual 203, 3) := by decide +kernel
theorem dX12_isInRun_27 : decode cX12_isInRun 27 = .ok (.ifCond .ne 5, 3) := by decide +kernel
theorem dX12_isInRun_30 : decode cX12_isInRun 30 = .ok (.iconst 0, 1) := by decide +kernel
theorem dX12_isInRun_31 : decode cX12_isInRun 31 = .ok (.ireturn, 1) := by decide +kernel
theorem dX12_isInRun_32 : decode cX12_isInRun 32 = .ok (.iinc 5 1, 3) := by decide +kernel
theorem dX12_isInRun_35 : decode cX12_isInRun 35 = .ok (.goto (-32), 3) := by decide +kernel
theorem dX12_isInRun_38 : decode cX12_isInRun 38 = .ok (.iconst 1, 1) := by decide +kernel
theorem dX12_isInRun_39 : decode cX12_isInRun 39 = .ok (.ireturn, 1) := by decide +kernel
theorem dX12_runOf_0 : decode cX12_runOf 0 = .ok (.iconst 0, 1) := by decide +kernel
theorem dX12_runOf_1 : decode cX12_runOf 1 = .ok (.istore_n 3, 1) := by decide +kernel
theorem dX12_runOf_2 : decode cX12_runOf 2 = .ok (.aload_n 0, 1) := by decide +kernel
theorem dX12_runOf_3 : decode cX12_runOf 3 = .ok (.iload_n 1, 1) := by decide +kernel
theorem dX12_runOf_4 : decode cX12_runOf 4 = .ok (.iload_n 2, 1) := by decide +kernel
theorem dX12_runOf_5 : decode cX12_runOf 5 = .ok (.invokevirtual 219, 3) := by decide +kernel
theorem dX12_runOf_8 : decode cX12_runOf 8 = .ok (.istore 4, 2) := by decide +kernel
theorem dX12_runOf_10 : decode cX12_runOf 10 = .ok (.iconst 0, 1) := by decide +kernel
theorem dX12_runOf_11 : decode cX12_runOf 11 = .ok (.istore 5, 2) := by decide +kernel
theorem dX12_runOf_13 : decode cX12_runOf 13 = .ok (.iload 5, 2) := by decide +kernel
theorem dX12_runOf_15 : decode cX12_runOf 15 = .ok (.aload_n 0, 1) := by decide +kernel
theorem dX12_runOf_16 : decode cX12_runOf 16 = .ok (.getfield 33, 3) := by decide +kernel
theorem dX12_runOf_19 : decode cX12_runOf 19 = .ok (.iload_n 2, 1) := by decide +kernel
theorem dX12_runOf_20 : decode cX12_runOf 20 = .ok (.iaload, 1) := by decide +kernel
theorem dX12_runOf_21 : decode cX12_runOf 21 = .ok (.if_icmp .ge 40, 3) := by decide +kernel
theorem dX12_runOf_24 : decode cX12_runOf 24 = .ok (.iload_n 3, 1) := by decide +kernel
theorem dX12_runOf_25 : decode cX12_runOf 25 = .ok (.aload_n 0, 1) := by decide +kernel
theorem dX12_runOf_26 : decode cX12_runOf 26 = .ok (.iload_n 1, 1) := by decide +kernel
theorem dX12_runOf_27 : decode cX12_runOf 27 = .ok (.iload_n 2, 1) := by decide +kernel
theorem dX12_runOf_28 : decode cX12_runOf 28 = .ok (.aload_n 0, 1) := by decide +kernel
theorem dX12_runOf_29 : decode cX12_runOf 29 = .ok (.getfield 30, 3) := by decide +kernel
theorem dX12_runOf_32 : decode cX12_runOf 32 = .ok (.bipush 64, 2) := by decide +kernel
theorem dX12_runOf_34 : decode cX12_runOf 34 = .ok (.iload_n 2, 1) := by decide +kernel
theorem dX12_runOf_35 : decode cX12_runOf 35 = .ok (.imul, 1) := by decide +kernel
theorem dX12_runOf_36 : decode cX12_runOf 36 = .ok (.iload 5, 2) := by decide +kernel
theorem dX12_runOf_38 : decode cX12_runOf 38 = .ok (.iadd, 1) := by decide +kernel
theorem dX12_runOf_39 : decode cX12_runOf 39 = .ok (.iaload, 1) := by decide +kernel
theorem dX12_runOf_40 : decode cX12_runOf 40 = .ok (.iload 4, 2) := by decide +kernel
theorem dX12_runOf_42 : decode cX12_runOf 42 = .ok (.invokevirtual 222, 3) := by decide +kernel
theorem dX12_runOf_45 : decode cX12_runOf 45 = .ok (.ifCond .eq 7, 3) := by decide +kernel
theorem dX12_runOf_48 : decode cX12_runOf 48 = .ok (.iconst 1, 1) := by decide +kernel
theorem dX12_runOf_49 : decode cX12_runOf 49 = .ok (.goto 4, 3) := by decide +kernel
theorem dX12_runOf_52 : decode cX12_runOf 52 = .ok (.iconst 0, 1) := by decide +kernel
theorem dX12_runOf_53 : decode cX12_runOf 53 = .ok (.iadd, 1) := by decide +kernel
theorem dX12_runOf_54 : decode cX12_runOf 54 = .ok (.istore_n 3, 1) := by decide +kernel
theorem dX12_runOf_55 : decode cX12_runOf 55 = .ok (.iinc 5 1, 3) := by decide +kernel
theorem dX12_runOf_58 : decode cX12_runOf 58 = .ok (.goto (-45), 3) := by decide +kernel
theorem dX12_runOf_61 : decode cX12_runOf 61 = .ok (.iload_n 3, 1) := by decide +kernel
theorem dX12_runOf_62 : decode cX12_runOf 62 = .ok (.ireturn, 1) := by decide +kernel
theorem dX12_run_0 : decode cX12_run 0 = .ok (.aload_n 0, 1) := by decide +kernel
theorem dX12_run_1 : decode cX12_run 1 = .ok (.iload_n 1, 1) := by decide +kernel
theorem dX12_run_2 : decode cX12_run 2 = .ok (.invokevirtual 200, 3) := by decide +kernel
theorem dX12_run_5 : decode cX12_run 5 = .ok (.ifCond .eq 20, 3) := by decide +kernel
theorem dX12_run_8 : decode cX12_run 8 = .ok (.aload_n 0, 1) := by decide +kernel
theorem dX12_run_9 : decode cX12_run 9 = .ok (.iload_n 2, 1) := by decide +kernel
theorem dX12_run_10 : decode cX12_run 10 = .ok (.invokevirtual 118, 3) := by decide +kernel
theorem dX12_run_13 : decode cX12_run 13 = .ok (.ifCond .eq 12, 3) := by decide +kernel
theorem dX12_run_16 : decode cX12_run 16 = .ok (.aload_n 0, 1) := by decide +kernel
theorem dX12_run_17 : decode cX12_run 17 = .ok (.iload_n 1, 1) := by decide +kernel
theorem dX12_run_18 : decode cX12_run 18 = .ok (.iload_n 2, 1) := by decide +kernel
theorem dX12_run_19 : decode cX12_run 19 = .ok (.invokevirtual 226, 3) := by decide +kernel
theorem dX12_run_22 : decode cX12_run 22 = .ok (.goto 5, 3) := by decide +kernel
theorem dX12_run_25 : decode cX12_run 25 = .ok (.bipush (-101), 2) := by decide +kernel
theorem dX12_run_27 : decode cX12_run 27 = .ok (.ireturn, 1) := by decide +kernel
theorem dX12_wayDown_0 : decode cX12_wayDown 0 = .ok (.aload_n 0, 1) := by decide +kernel
theorem dX12_wayDown_1 : decode cX12_wayDown 1 = .ok (.iload_n 1, 1) := by decide +kernel
theorem dX12_wayDown_2 : decode cX12_wayDown 2 = .ok (.iload_n 2, 1) := by decide +kernel
theorem dX12_wayDown_3 : decode cX12_wayDown 3 = .ok (.invokevirtual 219, 3) := by decide +kernel
theorem dX12_wayDown_6 : decode cX12_wayDown 6 = .ok (.istore_n 3, 1) := by decide +kernel
theorem dX12_wayDown_7 : decode cX12_wayDown 7 = .ok (.iconst 0, 1) := by decide +kernel
theorem dX12_wayDown_8 : decode cX12_wayDown 8 = .ok (.istore 4, 2) := by decide +kernel
theorem dX12_wayDown_10 : decode cX12_wayDown 10 = .ok (.iconst 0, 1) := by decide +kernel
theorem dX12_wayDown_11 : decode cX12_wayDown 11 = .ok (.istore 5, 2) := by decide +kernel
theorem dX12_wayDown_13 : decode cX12_wayDown 13 = .ok (.iconst 0, 1) := by decide +kernel
theorem dX12_wayDown_14 : decode cX12_wayDown 14 = .ok (.istore 6, 2) := by decide +kernel
theorem dX12_wayDown_16 : decode cX12_wayDown 16 = .ok (.iload 6, 2) := by decide +kernel
theorem dX12_wayDown_18 : decode cX12_wayDown 18 = .ok (.aload_n 0, 1) := by decide +kernel
theorem dX12_wayDown_19 : decode cX12_wayDown 19 = .ok (.getfield 39, 3) := by decide +kernel
theorem dX12_wayDown_22 : decode cX12_wayDown 22 = .ok (.iload_n 2, 1) := by decide +kernel
theorem dX12_wayDown_23 : decode cX12_wayDown 23 = .ok (.iaload, 1) := by decide +kernel
theorem dX12_wayDown_24 : decode cX12_wayDown 24 = .ok (.if_icmp .ge 107, 3) := by decide +kernel
theorem dX12_wayDown_27 : decode cX12_wayDown 27 = .ok (.iconst 0, 1) := by decide +kernel
theorem dX12_wayDown_28 : decode cX12_wayDown 28 = .ok (.istore 7, 2) := by decide +kernel
theorem dX12_wayDown_30 : decode cX12_wayDown 30 = .ok (.iconst 0, 1) := by decide +kernel
theorem dX12_wayDown_31 : decode cX12_wayDown 31 = .ok (.istore 8, 2) := by decide +kernel
theorem dX12_wayDown_33 : decode cX12_wayDown 33 = .ok (.iload 8, 2) := by decide +kernel
theorem dX12_wayDown_35 : decode cX12_wayDown 35 = .ok (.aload_n 0, 1) := by decide +kernel
theorem dX12_wayDown_36 : decode cX12_wayDown 36 = .ok (.getfield 36, 3) := by decide +kernel
theorem dX12_wayDown_39 : decode cX12_wayDown 39 = .ok (.bipush 64, 2) := by decide +kernel
theorem dX12_wayDown_41 : decode cX12_wayDown 41 = .ok (.iload_n 2, 1) := by decide +kernel
theorem dX12_wayDown_42 : decode cX12_wayDown 42 = .ok (.imul, 1) := by decide +kernel
theorem dX12_wayDown_43 : decode cX12_wayDown 43 = .ok (.iload 6, 2) := by decide +kernel
theorem dX12_wayDown_45 : decode cX12_wayDown 45 = .ok (.iadd, 1) := by decide +kernel
theorem dX12_wayDown_46 : decode cX12_wayDown 46 = .ok (.iaload, 1) := by decide +kernel
theorem dX12_wayDown_47 : decode cX12_wayDown 47 = .ok (.if_icmp .ge 46, 3) := by decide +kernel
theorem dX12_wayDown_50 : decode cX12_wayDown 50 = .ok (.iload 7, 2) := by decide +kernel
theorem dX12_wayDown_52 : decode cX12_wayDown 52 = .ok (.ifCond .ne 28, 3) := by decide +kernel
theorem dX12_wayDown_55 : decode cX12_wayDown 55 = .ok (.aload_n 0, 1) := by decide +kernel
theorem dX12_wayDown_56 : decode cX12_wayDown 56 = .ok (.iload_n 1, 1) := by decide +kernel
theorem dX12_wayDown_57 : decode cX12_wayDown 57 = .ok (.iload_n 2, 1) := by decide +kernel
theorem dX12_wayDown_58 : decode cX12_wayDown 58 = .ok (.aload_n 0, 1) := by decide +kernel
theorem dX12_wayDown_59 : decode cX12_wayDown 59 = .ok (.getfield 30, 3) := by decide +kernel
theorem dX12_wayDown_62 : decode cX12_wayDown 62 = .ok (.bipush 64, 2) := by decide +kernel
theorem dX12_wayDown_64 : decode cX12_wayDown 64 = .ok (.iload_n 2, 1) := by decide +kernel
theorem dX12_wayDown_65 : decode cX12_wayDown 65 = .ok (.imul, 1) := by decide +kernel
theorem dX12_wayDown_66 : decode cX12_wayDown 66 = .ok (.iload 5, 2) := by decide +kernel
theorem dX12_wayDown_68 : decode cX12_wayDown 68 = .ok (.iadd, 1) := by decide +kernel
theorem dX12_wayDown_69 : decode cX12_wayDown 69 = .ok (.iload 8, 2) := by decide +kernel
theorem dX12_wayDown_71 : decode cX12_wayDown 71 = .ok (.iadd, 1) := by decide +kernel
theorem dX12_wayDown_72 : decode cX12_wayDown 72 = .ok (.iaload, 1) := by decide +kernel
theorem dX12_wayDown_73 : decode cX12_wayDown 73 = .ok (.iload_n 3, 1) := by decide +kernel
theorem dX12_wayDown_74 : decode cX12_wayDown 74 = .ok (.invokevirtual 222, 3) := by decide +kernel
theorem dX12_wayDown_77 : decode cX12_wayDown 77 = .ok (.ifCond .eq 7, 3) := by decide +kernel
theorem dX12_wayDown_80 : decode cX12_wayDown 80 = .ok (.iconst 1, 1) := by decide +kernel
theorem dX12_wayDown_81 : decode cX12_wayDown 81 = .ok (.goto 4, 3) := by decide +kernel
theorem dX12_wayDown_84 : decode cX12_wayDown 84 = .ok (.iconst 0, 1) := by decide +kernel
theorem dX12_wayDown_85 : decode cX12_wayDown 85 = .ok (.istore 7, 2) := by decide +kernel
theorem dX12_wayDown_87 : decode cX12_wayDown 87 = .ok (.iinc 8 1, 3) := by decide +kernel
theorem dX12_wayDown_90 : decode cX12_wayDown 90 = .ok (.goto (-57), 3) := by decide +kernel
theorem dX12_wayDown_93 : decode cX12_wayDown 93 = .ok (.iload 4, 2) := by decide +kernel
theorem dX12_wayDown_95 : decode cX12_wayDown 95 = .ok (.iload 7, 2) := by decide +kernel
theorem dX12_wayDown_97 : decode cX12_wayDown 97 = .ok (.ifCond .eq 7, 3) := by decide +kernel
theorem dX12_wayDown_100 : decode cX12_wayDown 100 = .ok (.iconst 1, 1) := by decide +kernel
theorem dX12_wayDown_101 : decode cX12_wayDown 101 = .ok (.goto 4, 3) := by decide +kernel
theorem dX12_wayDown_104 : decode cX12_wayDown 104 = .ok (.iconst 0, 1) := by decide +kernel
theorem dX12_wayDown_105 : decode cX12_wayDown 105 = .ok (.iadd, 1) := by decide +kernel
theorem dX12_wayDown_106 : decode cX12_wayDown 106 = .ok (.istore 4, 2) := by decide +kernel
theorem dX12_wayDown_108 : decode cX12_wayDown 108 = .ok (.iload 5, 2) := by decide +kernel
theorem dX12_wayDown_110 : decode cX12_wayDown 110 = .ok (.aload_n 0, 1) := by decide +kernel
theorem dX12_wayDown_111 : decode cX12_wayDown 111 = .ok (.getfield 36, 3) := by decide +kernel
theorem dX12_wayDown_114 : decode cX12_wayDown 114 = .ok (.bipush 64, 2) := by decide +kernel
theorem dX12_wayDown_116 : decode cX12_wayDown 116 = .ok (.iload_n 2, 1) := by decide +kernel
theorem dX12_wayDown_117 : decode cX12_wayDown 117 = .ok (.imul, 1) := by decide +kernel
theorem dX12_wayDown_118 : decode cX12_wayDown 118 = .ok (.iload 6, 2) := by decide +kernel
theorem dX12_wayDown_120 : decode cX12_wayDown 120 = .ok (.iadd, 1) := by decide +kernel
theorem dX12_wayDown_121 : decode cX12_wayDown 121 = .ok (.iaload, 1) := by decide +kernel
theorem dX12_wayDown_122 : decode cX12_wayDown 122 = .ok (.iadd, 1) := by decide +kernel
theorem dX12_wayDown_123 : decode cX12_wayDown 123 = .ok (.istore 5, 2) := by decide +kernel
theorem dX12_wayDown_125 : decode cX12_wayDown 125 = .ok (.iinc 6 1, 3) := by decide +kernel
theorem dX12_wayDown_128 : decode cX12_wayDown 128 = .ok (.goto (-112), 3) := by decide +kernel
theorem dX12_wayDown_131 : decode cX12_wayDown 131 = .ok (.aload_n 0, 1) := by decide +kernel
theorem dX12_wayDown_132 : decode cX12_wayDown 132 = .ok (.iload_n 2, 1) := by decide +kernel
theorem dX12_wayDown_133 : decode cX12_wayDown 133 = .ok (.invokevirtual 124, 3) := by decide +kernel
theorem dX12_wayDown_136 : decode cX12_wayDown 136 = .ok (.iload 4, 2) := by decide +kernel
theorem dX12_wayDown_138 : decode cX12_wayDown 138 = .ok (.ifCond .ne 16, 3) := by decide +kernel
theorem dX12_wayDown_141 : decode cX12_wayDown 141 = .ok (.aload_n 0, 1) := by decide +kernel
theorem dX12_wayDown_142 : decode cX12_wayDown 142 = .ok (.getfield 39, 3) := by decide +kernel
theorem dX12_wayDown_145 : decode cX12_wayDown 145 = .ok (.iload_n 2, 1) := by decide +kernel
theorem dX12_wayDown_146 : decode cX12_wayDown 146 = .ok (.iaload, 1) := by decide +kernel
theorem dX12_wayDown_147 : decode cX12_wayDown 147 = .ok (.ifCond .le 7, 3) := by decide +kernel
theorem dX12_wayDown_150 : decode cX12_wayDown 150 = .ok (.iconst 1, 1) := by decide +kernel
theorem dX12_wayDown_151 : decode cX12_wayDown 151 = .ok (.goto 5, 3) := by decide +kernel
theorem dX12_wayDown_154 : decode cX12_wayDown 154 = .ok (.iload 4, 2) := by decide +kernel
theorem dX12_wayDown_156 : decode cX12_wayDown 156 = .ok (.iadd, 1) := by decide +kernel
theorem dX12_wayDown_157 : decode cX12_wayDown 157 = .ok (.ireturn, 1) := by decide +kernel
theorem dX12_isCovered_0 : decode cX12_isCovered 0 = .ok (.iconst 0, 1) := by decide +kernel
theorem dX12_isCovered_1 : decode cX12_isCovered 1 = .ok (.istore_n 3, 1) := by decide +kernel
theorem dX12_isCovered_2 : decode cX12_isCovered 2 = .ok (.iload_n 3, 1) := by decide +kernel
theorem dX12_isCovered_3 : decode cX12_isCovered 3 = .ok (.iconst 4, 1) := by decide +kernel
theorem dX12_isCovered_4 : decode cX12_isCovered 4 = .ok (.if_icmp .ge 69, 3) := by decide +kernel
theorem dX12_isCovered_7 : decode cX12_isCovered 7 = .ok (.aload_n 0, 1) := by decide +kernel
theorem dX12_isCovered_8 : decode cX12_isCovered 8 = .ok (.iload_n 1, 1) := by decide +kernel
theorem dX12_isCovered_9 : decode cX12_isCovered 9 = .ok (.iload_n 3, 1) := by decide +kernel
theorem dX12_isCovered_10 : decode cX12_isCovered 10 = .ok (.invokevirtual 216, 3) := by decide +kernel
theorem dX12_isCovered_13 : decode cX12_isCovered 13 = .ok (.ifCond .ne 27, 3) := by decide +kernel
theorem dX12_isCovered_16 : decode cX12_isCovered 16 = .ok (.aload_n 0, 1) := by decide +kernel
theorem dX12_isCovered_17 : decode cX12_isCovered 17 = .ok (.getfield 49, 3) := by decide +kernel
theorem dX12_isCovered_20 : decode cX12_isCovered 20 = .ok (.iload_n 1, 1) := by decide +kernel
theorem dX12_isCovered_21 : decode cX12_isCovered 21 = .ok (.iaload, 1) := by decide +kernel
theorem dX12_isCovered_22 : decode cX12_isCovered 22 = .ok (.iload_n 3, 1) := by decide +kernel
theorem dX12_isCovered_23 : decode cX12_isCovered 23 = .ok (.ishr, 1) := by decide +kernel
theorem dX12_isCovered_24 : decode cX12_isCovered 24 = .ok (.iconst 1, 1) := by decide +kernel
theorem dX12_isCovered_25 : decode cX12_isCovered 25 = .ok (.iand, 1) := by decide +kernel
theorem dX12_isCovered_26 : decode cX12_isCovered 26 = .ok (.iconst 1, 1) := by decide +kernel
theorem dX12_isCovered_27 : decode cX12_isCovered 27 = .ok (.if_icmp .eq 13, 3) := by decide +kernel
theorem dX12_isCovered_30 : decode cX12_isCovered 30 = .ok (.aload_n 0, 1) := by decide +kernel
theorem dX12_isCovered_31 : decode cX12_isCovered 31 = .ok (.getfield 52, 3) := by decide +kernel
theorem dX12_isCovered_34 : decode cX12_isCovered 34 = .ok (.iload_n 1, 1) := by decide +kernel
theorem dX12_isCovered_35 : decode cX12_isCovered 35 = .ok (.iaload, 1) := by decide +kernel
theorem dX12_isCovered_36 : decode cX12_isCovered 36 = .ok (.iload_n 3, 1) := by decide +kernel
theorem dX12_isCovered_37 : decode cX12_isCovered 37 = .ok (.if_icmp .ne 7, 3) := by decide +kernel
theorem dX12_isCovered_40 : decode cX12_isCovered 40 = .ok (.iconst 1, 1) := by decide +kernel
theorem dX12_isCovered_41 : decode cX12_isCovered 41 = .ok (.goto 4, 3) := by decide +kernel
theorem dX12_isCovered_44 : decode cX12_isCovered 44 = .ok (.iconst 0, 1) := by decide +kernel
theorem dX12_isCovered_45 : decode cX12_isCovered 45 = .ok (.istore 4, 2) := by decide +kernel
theorem dX12_isCovered_47 : decode cX12_isCovered 47 = .ok (.iload 4, 2) := by decide +kernel
theorem dX12_isCovered_49 : decode cX12_isCovered 49 = .ok (.ifCond .eq 18, 3) := by decide +kernel
theorem dX12_isCovered_52 : decode cX12_isCovered 52 = .ok (.aload_n 0, 1) := by decide +kernel
theorem dX12_isCovered_53 : decode cX12_isCovered 53 = .ok (.getfield 21, 3) := by decide +kernel
theorem dX12_isCovered_56 : decode cX12_isCovered 56 = .ok (.iload_n 2, 1) := by decide +kernel
theorem dX12_isCovered_57 : decode cX12_isCovered 57 = .ok (.iaload, 1) := by decide +kernel
theorem dX12_isCovered_58 : decode cX12_isCovered 58 = .ok (.iload_n 3, 1) := by decide +kernel
theorem dX12_isCovered_59 : decode cX12_isCovered 59 = .ok (.invokestatic 229, 3) := by decide +kernel
theorem dX12_isCovered_62 : decode cX12_isCovered 62 = .ok (.ifCond .ne 5, 3) := by decide +kernel
theorem dX12_isCovered_65 : decode cX12_isCovered 65 = .ok (.iconst 0, 1) := by decide +kernel
theorem dX12_isCovered_66 : decode cX12_isCovered 66 = .ok (.ireturn, 1) := by decide +kernel
theorem dX12_isCovered_67 : decode cX12_isCovered 67 = .ok (.iinc 3 1, 3) := by decide +kernel
theorem dX12_isCovered_70 : decode cX12_isCovered 70 = .ok (.goto (-68), 3) := by decide +kernel
theorem dX12_isCovered_73 : decode cX12_isCovered 73 = .ok (.iconst 1, 1) := by decide +kernel
theorem dX12_isCovered_74 : decode cX12_isCovered 74 = .ok (.ireturn, 1) := by decide +kernel
theorem dX12_leaves_0 : decode cX12_leaves 0 = .ok (.aload_n 0, 1) := by decide +kernel
theorem dX12_leaves_1 : decode cX12_leaves 1 = .ok (.iload_n 1, 1) := by decide +kernel
theorem dX12_leaves_2 : decode cX12_leaves 2 = .ok (.iload_n 2, 1) := by decide +kernel
theorem dX12_leaves_3 : decode cX12_leaves 3 = .ok (.iload_n 3, 1) := by decide +kernel
theorem dX12_leaves_4 : decode cX12_leaves 4 = .ok (.aload_n 0, 1) := by decide +kernel
theorem dX12_leaves_5 : decode cX12_leaves 5 = .ok (.getfield 21, 3) := by decide +kernel
theorem dX12_leaves_8 : decode cX12_leaves 8 = .ok (.iload_n 2, 1) := by decide +kernel
theorem dX12_leaves_9 : decode cX12_leaves 9 = .ok (.iaload, 1) := by decide +kernel
theorem dX12_leaves_10 : decode cX12_leaves 10 = .ok (.invokestatic 86, 3) := by decide +kernel
theorem dX12_leaves_13 : decode cX12_leaves 13 = .ok (.invokevirtual 222, 3) := by decide +kernel
theorem dX12_leaves_16 : decode cX12_leaves 16 = .ok (.ireturn, 1) := by decide +kernel
theorem dX12_pagesLeft_0 : decode cX12_pagesLeft 0 = .ok (.iconst 0, 1) := by decide +kernel
theorem dX12_pagesLeft_1 : decode cX12_pagesLeft 1 = .ok (.istore 4, 2) := by decide +kernel
theorem dX12_pagesLeft_3 : decode cX12_pagesLeft 3 = .ok (.iconst (-1), 1) := by decide +kernel
theorem dX12_pagesLeft_4 : decode cX12_pagesLeft 4 = .ok (.istore 5, 2) := by decide +kernel
theorem dX12_pagesLeft_6 : decode cX12_pagesLeft 6 = .ok (.iconst 0, 1) := by decide +kernel
theorem dX12_pagesLeft_7 : decode cX12_pagesLeft 7 = .ok (.istore 6, 2) := by decide +kernel
theorem dX12_pagesLeft_9 : decode cX12_pagesLeft 9 = .ok (.iload 6, 2) := by decide +kernel
theorem dX12_pagesLeft_11 : decode cX12_pagesLeft 11 = .ok (.bipush 64, 2) := by decide +kernel
theorem dX12_pagesLeft_13 : decode cX12_pagesLeft 13 = .ok (.if_icmp .ge 65, 3) := by decide +kernel
theorem dX12_pagesLeft_16 : decode cX12_pagesLeft 16 = .ok (.aload_n 0, 1) := by decide +kernel
theorem dX12_pagesLeft_17 : decode cX12_pagesLeft 17 = .ok (.getfield 7, 3) := by decide +kernel
theorem dX12_pagesLeft_20 : decode cX12_pagesLeft 20 = .ok (.iload 6, 2) := by decide +kernel
theorem dX12_pagesLeft_22 : decode cX12_pagesLeft 22 = .ok (.baload, 1) := by decide +kernel
theorem dX12_pagesLeft_23 : decode cX12_pagesLeft 23 = .ok (.ifCond .eq 49, 3) := by decide +kernel
theorem dX12_pagesLeft_26 : decode cX12_pagesLeft 26 = .ok (.aload_n 0, 1) := by decide +kernel
theorem dX12_pagesLeft_27 : decode cX12_pagesLeft 27 = .ok (.iload_n 1, 1) := by decide +kernel
theorem dX12_pagesLeft_28 : decode cX12_pagesLeft 28 = .ok (.iload_n 2, 1) := by decide +kernel
theorem dX12_pagesLeft_29 : decode cX12_pagesLeft 29 = .ok (.iload 6, 2) := by decide +kernel
theorem dX12_pagesLeft_31 : decode cX12_pagesLeft 31 = .ok (.invokevirtual 232, 3) := by decide +kernel
theorem dX12_pagesLeft_34 : decode cX12_pagesLeft 34 = .ok (.ifCond .eq 38, 3) := by decide +kernel
theorem dX12_pagesLeft_37 : decode cX12_pagesLeft 37 = .ok (.aload_n 0, 1) := by decide +kernel
theorem dX12_pagesLeft_38 : decode cX12_pagesLeft 38 = .ok (.iload_n 1, 1) := by decide +kernel
theorem dX12_pagesLeft_39 : decode cX12_pagesLeft 39 = .ok (.iload_n 3, 1) := by decide +kernel
theorem dX12_pagesLeft_40 : decode cX12_pagesLeft 40 = .ok (.iload 6, 2) := by decide +kernel
theorem dX12_pagesLeft_42 : decode cX12_pagesLeft 42 = .ok (.invokevirtual 232, 3) := by decide +kernel
theorem dX12_pagesLeft_45 : decode cX12_pagesLeft 45 = .ok (.ifCond .eq 27, 3) := by decide +kernel
theorem dX12_pagesLeft_48 : decode cX12_pagesLeft 48 = .ok (.iload 6, 2) := by decide +kernel
theorem dX12_pagesLeft_50 : decode cX12_pagesLeft 50 = .ok (.aload_n 0, 1) := by decide +kernel
theorem dX12_pagesLeft_51 : decode cX12_pagesLeft 51 = .ok (.getfield 17, 3) := by decide +kernel
theorem dX12_pagesLeft_54 : decode cX12_pagesLeft 54 = .ok (.idiv, 1) := by decide +kernel
theorem dX12_pagesLeft_55 : decode cX12_pagesLeft 55 = .ok (.iload 5, 2) := by decide +kernel
theorem dX12_pagesLeft_57 : decode cX12_pagesLeft 57 = .ok (.if_icmp .eq 15, 3) := by decide +kernel
theorem dX12_pagesLeft_60 : decode cX12_pagesLeft 60 = .ok (.iload 6, 2) := by decide +kernel
theorem dX12_pagesLeft_62 : decode cX12_pagesLeft 62 = .ok (.aload_n 0, 1) := by decide +kernel
theorem dX12_pagesLeft_63 : decode cX12_pagesLeft 63 = .ok (.getfield 17, 3) := by decide +kernel
theorem dX12_pagesLeft_66 : decode cX12_pagesLeft 66 = .ok (.idiv, 1) := by decide +kernel
theorem dX12_pagesLeft_67 : decode cX12_pagesLeft 67 = .ok (.istore 5, 2) := by decide +kernel
theorem dX12_pagesLeft_69 : decode cX12_pagesLeft 69 = .ok (.iinc 4 1, 3) := by decide +kernel
theorem dX12_pagesLeft_72 : decode cX12_pagesLeft 72 = .ok (.iinc 6 1, 3) := by decide +kernel
theorem dX12_pagesLeft_75 : decode cX12_pagesLeft 75 = .ok (.goto (-66), 3) := by decide +kernel
theorem dX12_pagesLeft_78 : decode cX12_pagesLeft 78 = .ok (.iload 4, 2) := by decide +kernel
theorem dX12_pagesLeft_80 : decode cX12_pagesLeft 80 = .ok (.ireturn, 1) := by decide +kernel
theorem dX12_isSorted_0 : decode cX12_isSorted 0 = .ok (.aload_n 0, 1) := by decide +kernel
theorem dX12_isSorted_1 : decode cX12_isSorted 1 = .ok (.getfield 52, 3) := by decide +kernel
theorem dX12_isSorted_4 : decode cX12_isSorted 4 = .ok (.iload_n 1, 1) := by decide +kernel
theorem dX12_isSorted_5 : decode cX12_isSorted 5 = .ok (.iaload, 1) := by decide +kernel
theorem dX12_isSorted_6 : decode cX12_isSorted 6 = .ok (.iconst (-1), 1) := by decide +kernel
theorem dX12_isSorted_7 : decode cX12_isSorted 7 = .ok (.if_icmp .eq 17, 3) := by decide +kernel
theorem dX12_isSorted_10 : decode cX12_isSorted 10 = .ok (.aload_n 0, 1) := by decide +kernel
theorem dX12_isSorted_11 : decode cX12_isSorted 11 = .ok (.iload_n 1, 1) := by decide +kernel
theorem dX12_isSorted_12 : decode cX12_isSorted 12 = .ok (.aload_n 0, 1) := by decide +kernel
theorem dX12_isSorted_13 : decode cX12_isSorted 13 = .ok (.getfield 52, 3) := by decide +kernel
theorem dX12_isSorted_16 : decode cX12_isSorted 16 = .ok (.iload_n 1, 1) := by decide +kernel
theorem dX12_isSorted_17 : decode cX12_isSorted 17 = .ok (.iaload, 1) := by decide +kernel
theorem dX12_isSorted_18 : decode cX12_isSorted 18 = .ok (.invokevirtual 213, 3) := by decide +kernel
theorem dX12_isSorted_21 : decode cX12_isSorted 21 = .ok (.ifCond .eq 7, 3) := by decide +kernel
theorem dX12_isSorted_24 : decode cX12_isSorted 24 = .ok (.iconst 1, 1) := by decide +kernel
theorem dX12_isSorted_25 : decode cX12_isSorted 25 = .ok (.goto 4, 3) := by decide +kernel
theorem dX12_isSorted_28 : decode cX12_isSorted 28 = .ok (.iconst 0, 1) := by decide +kernel
theorem dX12_isSorted_29 : decode cX12_isSorted 29 = .ok (.ireturn, 1) := by decide +kernel
theorem dX12_isSortedBy_0 : decode cX12_isSortedBy 0 = .ok (.iconst 0, 1) := by decide +kernel
theorem dX12_isSortedBy_1 : decode cX12_isSortedBy 1 = .ok (.istore_n 3, 1) := by decide +kernel
theorem dX12_isSortedBy_2 : decode cX12_isSortedBy 2 = .ok (.iload_n 3, 1) := by decide +kernel
theorem dX12_isSortedBy_3 : decode cX12_isSortedBy 3 = .ok (.aload_n 0, 1) := by decide +kernel
theorem dX12_isSortedBy_4 : decode cX12_isSortedBy 4 = .ok (.getfield 21, 3) := by decide +kernel
theorem dX12_isSortedBy_7 : decode cX12_isSortedBy 7 = .ok (.iload_n 2, 1) := by decide +kernel
theorem dX12_isSortedBy_8 : decode cX12_isSortedBy 8 = .ok (.iaload, 1) := by decide +kernel
theorem dX12_isSortedBy_9 : decode cX12_isSortedBy 9 = .ok (.invokestatic 86, 3) := by decide +kernel
theorem dX12_isSortedBy_12 : decode cX12_isSortedBy 12 = .ok (.if_icmp .ge 27, 3) := by decide +kernel
theorem dX12_isSortedBy_15 : decode cX12_isSortedBy 15 = .ok (.aload_n 0, 1) := by decide +kernel
theorem dX12_isSortedBy_16 : decode cX12_isSortedBy 16 = .ok (.iload_n 1, 1) := by decide +kernel
theorem dX12_isSortedBy_17 : decode cX12_isSortedBy 17 = .ok (.aload_n 0, 1) := by decide +kernel
theorem dX12_isSortedBy_18 : decode cX12_isSortedBy 18 = .ok (.getfield 21, 3) := by decide +kernel
theorem dX12_isSortedBy_21 : decode cX12_isSortedBy 21 = .ok (.iload_n 2, 1) := by decide +kernel
theorem dX12_isSortedBy_22 : decode cX12_isSortedBy 22 = .ok (.iaload, 1) := by decide +kernel
theorem dX12_isSortedBy_23 : decode cX12_isSortedBy 23 = .ok (.iload_n 3, 1) := by decide +kernel
theorem dX12_isSortedBy_24 : decode cX12_isSortedBy 24 = .ok (.invokestatic 90, 3) := by decide +kernel
theorem dX12_isSortedBy_27 : decode cX12_isSortedBy 27 = .ok (.invokevirtual 213, 3) := by decide +kernel
theorem dX12_isSortedBy_30 : decode cX12_isSortedBy 30 = .ok (.ifCond .eq 9, 3) := by decide +kernel
theorem dX12_isSortedBy_33 : decode cX12_isSortedBy 33 = .ok (.iinc 3 1, 3) := by decide +kernel
theorem dX12_isSortedBy_36 : decode cX12_isSortedBy 36 = .ok (.goto (-34), 3) := by decide +kernel
theorem dX12_isSortedBy_39 : decode cX12_isSortedBy 39 = .ok (.aload_n 0, 1) := by decide +kernel
theorem dX12_isSortedBy_40 : decode cX12_isSortedBy 40 = .ok (.iload_n 1, 1) := by decide +kernel
theorem dX12_isSortedBy_41 : decode cX12_isSortedBy 41 = .ok (.invokevirtual 235, 3) := by decide +kernel
theorem dX12_isSortedBy_44 : decode cX12_isSortedBy 44 = .ok (.ifCond .ne 35, 3) := by decide +kernel
theorem dX12_isSortedBy_47 : decode cX12_isSortedBy 47 = .ok (.iload_n 3, 1) := by decide +kernel
theorem dX12_isSortedBy_48 : decode cX12_isSortedBy 48 = .ok (.aload_n 0, 1) := by decide +kernel
theorem dX12_isSortedBy_49 : decode cX12_isSortedBy 49 = .ok (.getfield 21, 3) := by decide +kernel
theorem dX12_isSortedBy_52 : decode cX12_isSortedBy 52 = .ok (.iload_n 2, 1) := by decide +kernel
theorem dX12_isSortedBy_53 : decode cX12_isSortedBy 53 = .ok (.iaload, 1) := by decide +kernel
theorem dX12_isSortedBy_54 : decode cX12_isSortedBy 54 = .ok (.invokestatic 86, 3) := by decide +kernel
theorem dX12_isSortedBy_57 : decode cX12_isSortedBy 57 = .ok (.if_icmp .ge 26, 3) := by decide +kernel
theorem dX12_isSortedBy_60 : decode cX12_isSortedBy 60 = .ok (.aload_n 0, 1) := by decide +kernel
theorem dX12_isSortedBy_61 : decode cX12_isSortedBy 61 = .ok (.getfield 21, 3) := by decide +kernel
theorem dX12_isSortedBy_64 : decode cX12_isSortedBy 64 = .ok (.iload_n 2, 1) := by decide +kernel
theorem dX12_isSortedBy_65 : decode cX12_isSortedBy 65 = .ok (.iaload, 1) := by decide +kernel
theorem dX12_isSortedBy_66 : decode cX12_isSortedBy 66 = .ok (.iload_n 3, 1) := by decide +kernel
theorem dX12_isSortedBy_67 : decode cX12_isSortedBy 67 = .ok (.invokestatic 90, 3) := by decide +kernel
theorem dX12_isSortedBy_70 : decode cX12_isSortedBy 70 = .ok (.aload_n 0, 1) := by decide +kernel
theorem dX12_isSortedBy_71 : decode cX12_isSortedBy 71 = .ok (.getfield 52, 3) := by decide +kernel
theorem dX12_isSortedBy_74 : decode cX12_isSortedBy 74 = .ok (.iload_n 1, 1) := by decide +kernel
theorem dX12_isSortedBy_75 : decode cX12_isSortedBy 75 = .ok (.iaload, 1) := by decide +kernel
theorem dX12_isSortedBy_76 : decode cX12_isSortedBy 76 = .ok (.if_icmp .ne 7, 3) := by decide +kernel
theorem dX12_isSortedBy_79 : decode cX12_isSortedBy 79 = .ok (.iconst 1, 1) := by decide +kernel
theorem dX12_isSortedBy_80 : decode cX12_isSortedBy 80 = .ok (.goto 4, 3) := by decide +kernel
theorem dX12_isSortedBy_83 : decode cX12_isSortedBy 83 = .ok (.iconst 0, 1) := by decide +kernel
theorem dX12_isSortedBy_84 : decode cX12_isSortedBy 84 = .ok (.ireturn, 1) := by decide +kernel
theorem dX12_looksByTable_0 : decode cX12_looksByTable 0 = .ok (.aload_n 0, 1) := by decide +kernel
theorem dX12_looksByTable_1 : decode cX12_looksByTable 1 = .ok (.invokevirtual 238, 3) := by decide +kernel
theorem dX12_looksByTable_4 : decode cX12_looksByTable 4 = .ok (.aload_n 0, 1) := by decide +kernel
theorem dX12_looksByTable_5 : decode cX12_looksByTable 5 = .ok (.iload_n 1, 1) := by decide +kernel
theorem dX12_looksByTable_6 : decode cX12_looksByTable 6 = .ok (.invokevirtual 235, 3) := by decide +kernel
theorem dX12_looksByTable_9 : decode cX12_looksByTable 9 = .ok (.ifCond .eq 7, 3) := by decide +kernel
theorem dX12_looksByTable_12 : decode cX12_looksByTable 12 = .ok (.iconst 0, 1) := by decide +kernel
theorem dX12_looksByTable_13 : decode cX12_looksByTable 13 = .ok (.goto 8, 3) := by decide +kernel
theorem dX12_looksByTable_16 : decode cX12_looksByTable 16 = .ok (.aload_n 0, 1) := by decide +kernel
theorem dX12_looksByTable_17 : decode cX12_looksByTable 17 = .ok (.iload_n 1, 1) := by decide +kernel
theorem dX12_looksByTable_18 : decode cX12_looksByTable 18 = .ok (.invokevirtual 210, 3) := by decide +kernel
theorem dX12_looksByTable_21 : decode cX12_looksByTable 21 = .ok (.iadd, 1) := by decide +kernel
theorem dX12_looksByTable_22 : decode cX12_looksByTable 22 = .ok (.ireturn, 1) := by decide +kernel
theorem dX12_looksBy_0 : decode cX12_looksBy 0 = .ok (.aload_n 0, 1) := by decide +kernel
theorem dX12_looksBy_1 : decode cX12_looksBy 1 = .ok (.iload_n 1, 1) := by decide +kernel
theorem dX12_looksBy_2 : decode cX12_looksBy 2 = .ok (.iload_n 2, 1) := by decide +kernel
theorem dX12_looksBy_3 : decode cX12_looksBy 3 = .ok (.invokevirtual 241, 3) := by decide +kernel
theorem dX12_looksBy_6 : decode cX12_looksBy 6 = .ok (.aload_n 0, 1) := by decide +kernel
theorem dX12_looksBy_7 : decode cX12_looksBy 7 = .ok (.iload_n 1, 1) := by decide +kernel
theorem dX12_looksBy_8 : decode cX12_looksBy 8 = .ok (.iload_n 2, 1) := by decide +kernel
theorem dX12_looksBy_9 : decode cX12_looksBy 9 = .ok (.invokevirtual 244, 3) := by decide +kernel
theorem dX12_looksBy_12 : decode cX12_looksBy 12 = .ok (.ifCond .eq 7, 3) := by decide +kernel
theorem dX12_looksBy_15 : decode cX12_looksBy 15 = .ok (.iconst 0, 1) := by decide +kernel
theorem dX12_looksBy_16 : decode cX12_looksBy 16 = .ok (.goto 10, 3) := by decide +kernel
theorem dX12_looksBy_19 : decode cX12_looksBy 19 = .ok (.aload_n 0, 1) := by decide +kernel
theorem dX12_looksBy_20 : decode cX12_looksBy 20 = .ok (.iload_n 1, 1) := by decide +kernel
theorem dX12_looksBy_21 : decode cX12_looksBy 21 = .ok (.iload_n 2, 1) := by decide +kernel
theorem dX12_looksBy_22 : decode cX12_looksBy 22 = .ok (.iload_n 2, 1) := by decide +kernel
theorem dX12_looksBy_23 : decode cX12_looksBy 23 = .ok (.invokevirtual 247, 3) := by decide +kernel
theorem dX12_looksBy_26 : decode cX12_looksBy 26 = .ok (.iadd, 1) := by decide +kernel
theorem dX12_looksBy_27 : decode cX12_looksBy 27 = .ok (.aload_n 0, 1) := by decide +kernel
theorem dX12_looksBy_28 : decode cX12_looksBy 28 = .ok (.iload_n 1, 1) := by decide +kernel
theorem dX12_looksBy_29 : decode cX12_looksBy 29 = .ok (.iload_n 2, 1) := by decide +kernel
theorem dX12_looksBy_30 : decode cX12_looksBy 30 = .ok (.invokevirtual 251, 3) := by decide +kernel
theorem dX12_looksBy_33 : decode cX12_looksBy 33 = .ok (.ifCond .eq 7, 3) := by decide +kernel
theorem dX12_looksBy_36 : decode cX12_looksBy 36 = .ok (.iconst 0, 1) := by decide +kernel
theorem dX12_looksBy_37 : decode cX12_looksBy 37 = .ok (.goto 8, 3) := by decide +kernel
theorem dX12_looksBy_40 : decode cX12_looksBy 40 = .ok (.aload_n 0, 1) := by decide +kernel
theorem dX12_looksBy_41 : decode cX12_looksBy 41 = .ok (.iload_n 1, 1) := by decide +kernel
theorem dX12_looksBy_42 : decode cX12_looksBy 42 = .ok (.invokevirtual 210, 3) := by decide +kernel
theorem dX12_looksBy_45 : decode cX12_looksBy 45 = .ok (.iadd, 1) := by decide +kernel
theorem dX12_looksBy_46 : decode cX12_looksBy 46 = .ok (.ireturn, 1) := by decide +kernel
theorem dX12_looksByBoth_0 : decode cX12_looksByBoth 0 = .ok (.aload_n 0, 1) := by decide +kernel
theorem dX12_looksByBoth_1 : decode cX12_looksByBoth 1 = .ok (.iload_n 1, 1) := by decide +kernel
theorem dX12_looksByBoth_2 : decode cX12_looksByBoth 2 = .ok (.iload_n 2, 1) := by decide +kernel
theorem dX12_looksByBoth_3 : decode cX12_looksByBoth 3 = .ok (.invokevirtual 241, 3) := by decide +kernel
theorem dX12_looksByBoth_6 : decode cX12_looksByBoth 6 = .ok (.aload_n 0, 1) := by decide +kernel
theorem dX12_looksByBoth_7 : decode cX12_looksByBoth 7 = .ok (.iload_n 1, 1) := by decide +kernel
theorem dX12_looksByBoth_8 : decode cX12_looksByBoth 8 = .ok (.iload_n 3, 1) := by decide +kernel
theorem dX12_looksByBoth_9 : decode cX12_looksByBoth 9 = .ok (.invokevirtual 241, 3) := by decide +kernel
theorem dX12_looksByBoth_12 : decode cX12_looksByBoth 12 = .ok (.iadd, 1) := by decide +kernel
theorem dX12_looksByBoth_13 : decode cX12_looksByBoth 13 = .ok (.aload_n 0, 1) := by decide +kernel
theorem dX12_looksByBoth_14 : decode cX12_looksByBoth 14 = .ok (.iload_n 1, 1) := by decide +kernel
theorem dX12_looksByBoth_15 : decode cX12_looksByBoth 15 = .ok (.iload_n 2, 1) := by decide +kernel
theorem dX12_looksByBoth_16 : decode cX12_looksByBoth 16 = .ok (.iload_n 3, 1) := by decide +kernel
theorem dX12_looksByBoth_17 : decode cX12_looksByBoth 17 = .ok (.invokevirtual 247, 3) := by decide +kernel
theorem dX12_looksByBoth_20 : decode cX12_looksByBoth 20 = .ok (.iadd, 1) := by decide +kernel
theorem dX12_looksByBoth_21 : decode cX12_looksByBoth 21 = .ok (.aload_n 0, 1) := by decide +kernel
theorem dX12_looksByBoth_22 : decode cX12_looksByBoth 22 = .ok (.iload_n 1, 1) := by decide +kernel
theorem dX12_looksByBoth_23 : decode cX12_looksByBoth 23 = .ok (.invokevirtual 235, 3) := by decide +kernel
theorem dX12_looksByBoth_26 : decode cX12_looksByBoth 26 = .ok (.ifCond .eq 7, 3) := by decide +kernel
theorem dX12_looksByBoth_29 : decode cX12_looksByBoth 29 = .ok (.iconst 0, 1) := by decide +kernel
theorem dX12_looksByBoth_30 : decode cX12_looksByBoth 30 = .ok (.goto 8, 3) := by decide +kernel
theorem dX12_looksByBoth_33 : decode cX12_looksByBoth 33 = .ok (.aload_n 0, 1) := by decide +kernel
theorem dX12_looksByBoth_34 : decode cX12_looksByBoth 34 = .ok (.iload_n 1, 1) := by decide +kernel
theorem dX12_looksByBoth_35 : decode cX12_looksByBoth 35 = .ok (.invokevirtual 210, 3) := by decide +kernel
theorem dX12_looksByBoth_38 : decode cX12_looksByBoth 38 = .ok (.iadd, 1) := by decide +kernel
theorem dX12_looksByBoth_39 : decode cX12_looksByBoth 39 = .ok (.ireturn, 1) := by decide +kernel
theorem dX12_looksOf_0 : decode cX12_looksOf 0 = .ok (.iload_n 2, 1) := by decide +kernel
theorem dX12_looksOf_1 : decode cX12_looksOf 1 = .ok (.ifCond .ne 9, 3) := by decide +kernel
theorem dX12_looksOf_4 : decode cX12_looksOf 4 = .ok (.aload_n 0, 1) := by decide +kernel
theorem dX12_looksOf_5 : decode cX12_looksOf 5 = .ok (.iload_n 1, 1) := by decide +kernel
theorem dX12_looksOf_6 : decode cX12_looksOf 6 = .ok (.invokevirtual 254, 3) := by decide +kernel
theorem dX12_looksOf_9 : decode cX12_looksOf 9 = .ok (.ireturn, 1) := by decide +kernel
theorem dX12_looksOf_10 : decode cX12_looksOf 10 = .ok (.iload_n 2, 1) := by decide +kernel
theorem dX12_looksOf_11 : decode cX12_looksOf 11 = .ok (.iconst 1, 1) := by decide +kernel
theorem dX12_looksOf_12 : decode cX12_looksOf 12 = .ok (.bipush 8, 2) := by decide +kernel
theorem dX12_looksOf_14 : decode cX12_looksOf 14 = .ok (.invokestatic 82, 3) := by decide +kernel
theorem dX12_looksOf_17 : decode cX12_looksOf 17 = .ok (.ifCond .eq 26, 3) := by decide +kernel
theorem dX12_looksOf_20 : decode cX12_looksOf 20 = .ok (.aload_n 0, 1) := by decide +kernel
theorem dX12_looksOf_21 : decode cX12_looksOf 21 = .ok (.iload_n 2, 1) := by decide +kernel
theorem dX12_looksOf_22 : decode cX12_looksOf 22 = .ok (.iconst 1, 1) := by decide +kernel
theorem dX12_looksOf_23 : decode cX12_looksOf 23 = .ok (.isub, 1) := by decide +kernel
theorem dX12_looksOf_24 : decode cX12_looksOf 24 = .ok (.invokevirtual 118, 3) := by decide +kernel
theorem dX12_looksOf_27 : decode cX12_looksOf 27 = .ok (.ifCond .eq 14, 3) := by decide +kernel
theorem dX12_looksOf_30 : decode cX12_looksOf 30 = .ok (.aload_n 0, 1) := by decide +kernel
theorem dX12_looksOf_31 : decode cX12_looksOf 31 = .ok (.iload_n 1, 1) := by decide +kernel
theorem dX12_looksOf_32 : decode cX12_looksOf 32 = .ok (.iload_n 2, 1) := by decide +kernel
theorem dX12_looksOf_33 : decode cX12_looksOf 33 = .ok (.iconst 1, 1) := by decide +kernel
theorem dX12_looksOf_34 : decode cX12_looksOf 34 = .ok (.isub, 1) := by decide +kernel
theorem dX12_looksOf_35 : decode cX12_looksOf 35 = .ok (.invokevirtual 257, 3) := by decide +kernel
theorem dX12_looksOf_38 : decode cX12_looksOf 38 = .ok (.goto 4, 3) := by decide +kernel
theorem dX12_looksOf_41 : decode cX12_looksOf 41 = .ok (.iconst (-1), 1) := by decide +kernel
theorem dX12_looksOf_42 : decode cX12_looksOf 42 = .ok (.ireturn, 1) := by decide +kernel
theorem dX12_looksOf_43 : decode cX12_looksOf 43 = .ok (.iload_n 2, 1) := by decide +kernel
theorem dX12_looksOf_44 : decode cX12_looksOf 44 = .ok (.bipush 100, 2) := by decide +kernel
theorem dX12_looksOf_46 : decode cX12_looksOf 46 = .ok (.isub, 1) := by decide +kernel
theorem dX12_looksOf_47 : decode cX12_looksOf 47 = .ok (.bipush 10, 2) := by decide +kernel
theorem dX12_looksOf_49 : decode cX12_looksOf 49 = .ok (.idiv, 1) := by decide +kernel
theorem dX12_looksOf_50 : decode cX12_looksOf 50 = .ok (.istore_n 3, 1) := by decide +kernel
theorem dX12_looksOf_51 : decode cX12_looksOf 51 = .ok (.iload_n 2, 1) := by decide +kernel
theorem dX12_looksOf_52 : decode cX12_looksOf 52 = .ok (.bipush 100, 2) := by decide +kernel
theorem dX12_looksOf_54 : decode cX12_looksOf 54 = .ok (.isub, 1) := by decide +kernel
theorem dX12_looksOf_55 : decode cX12_looksOf 55 = .ok (.bipush 10, 2) := by decide +kernel
theorem dX12_looksOf_57 : decode cX12_looksOf 57 = .ok (.irem, 1) := by decide +kernel
theorem dX12_looksOf_58 : decode cX12_looksOf 58 = .ok (.istore 4, 2) := by decide +kernel
theorem dX12_looksOf_60 : decode cX12_looksOf 60 = .ok (.iload_n 2, 1) := by decide +kernel
theorem dX12_looksOf_61 : decode cX12_looksOf 61 = .ok (.bipush 100, 2) := by decide +kernel
theorem dX12_looksOf_63 : decode cX12_looksOf 63 = .ok (.if_icmp .lt 37, 3) := by decide +kernel
theorem dX12_looksOf_66 : decode cX12_looksOf 66 = .ok (.iload_n 3, 1) := by decide +kernel
theorem dX12_looksOf_67 : decode cX12_looksOf 67 = .ok (.iload 4, 2) := by decide +kernel
theorem dX12_looksOf_69 : decode cX12_looksOf 69 = .ok (.if_icmp .ge 31, 3) := by decide +kernel
theorem dX12_looksOf_72 : decode cX12_looksOf 72 = .ok (.aload_n 0, 1) := by decide +kernel
theorem dX12_looksOf_73 : decode cX12_looksOf 73 = .ok (.iload_n 3, 1) := by decide +kernel
theorem dX12_looksOf_74 : decode cX12_looksOf 74 = .ok (.invokevirtual 118, 3) := by decide +kernel
theorem dX12_looksOf_77 : decode cX12_looksOf 77 = .ok (.ifCond .eq 23, 3) := by decide +kernel
theorem dX12_looksOf_80 : decode cX12_looksOf 80 = .ok (.aload_n 0, 1) := by decide +kernel
theorem dX12_looksOf_81 : decode cX12_looksOf 81 = .ok (.iload 4, 2) := by decide +kernel
theorem dX12_looksOf_83 : decode cX12_looksOf 83 = .ok (.invokevirtual 118, 3) := by decide +kernel
theorem dX12_looksOf_86 : decode cX12_looksOf 86 = .ok (.ifCond .eq 14, 3) := by decide +kernel
theorem dX12_looksOf_89 : decode cX12_looksOf 89 = .ok (.aload_n 0, 1) := by decide +kernel
theorem dX12_looksOf_90 : decode cX12_looksOf 90 = .ok (.iload_n 1, 1) := by decide +kernel
theorem dX12_looksOf_91 : decode cX12_looksOf 91 = .ok (.iload_n 3, 1) := by decide +kernel
theorem dX12_looksOf_92 : decode cX12_looksOf 92 = .ok (.iload 4, 2) := by decide +kernel
theorem dX12_looksOf_94 : decode cX12_looksOf 94 = .ok (.invokevirtual 260, 3) := by decide +kernel
theorem dX12_looksOf_97 : decode cX12_looksOf 97 = .ok (.goto 4, 3) := by decide +kernel
theorem dX12_looksOf_100 : decode cX12_looksOf 100 = .ok (.iconst (-1), 1) := by decide +kernel
theorem dX12_looksOf_101 : decode cX12_looksOf 101 = .ok (.ireturn, 1) := by decide +kernel
theorem dX12_looks_0 : decode cX12_looks 0 = .ok (.aload_n 0, 1) := by decide +kernel
theorem dX12_looks_1 : decode cX12_looks 1 = .ok (.iload_n 1, 1) := by decide +kernel
theorem dX12_looks_2 : decode cX12_looks 2 = .ok (.invokevirtual 200, 3) := by decide +kernel
theorem dX12_looks_5 : decode cX12_looks 5 = .ok (.ifCond .ne 6, 3) := by decide +kernel
theorem dX12_looks_8 : decode cX12_looks 8 = .ok (.bipush (-101), 2) := by decide +kernel
theorem dX12_looks_10 : decode cX12_looks 10 = .ok (.ireturn, 1) := by decide +kernel
theorem dX12_looks_11 : decode cX12_looks 11 = .ok (.aload_n 0, 1) := by decide +kernel
theorem dX12_looks_12 : decode cX12_looks 12 = .ok (.iload_n 1, 1) := by decide +kernel
theorem dX12_looks_13 : decode cX12_looks 13 = .ok (.iload_n 2, 1) := by decide +kernel
theorem dX12_looks_14 : decode cX12_looks 14 = .ok (.invokevirtual 263, 3) := by decide +kernel
theorem dX12_looks_17 : decode cX12_looks 17 = .ok (.istore_n 3, 1) := by decide +kernel
theorem dX12_looks_18 : decode cX12_looks 18 = .ok (.iload_n 3, 1) := by decide +kernel
theorem dX12_looks_19 : decode cX12_looks 19 = .ok (.iconst (-1), 1) := by decide +kernel
theorem dX12_looks_20 : decode cX12_looks 20 = .ok (.if_icmp .ne 8, 3) := by decide +kernel
theorem dX12_looks_23 : decode cX12_looks 23 = .ok (.bipush (-101), 2) := by decide +kernel
theorem dX12_looks_25 : decode cX12_looks 25 = .ok (.goto 4, 3) := by decide +kernel
theorem dX12_looks_28 : decode cX12_looks 28 = .ok (.iload_n 3, 1) := by decide +kernel
theorem dX12_looks_29 : decode cX12_looks 29 = .ok (.ireturn, 1) := by decide +kernel
theorem dX12_lookAll_0 : decode cX12_lookAll 0 = .ok (.aload_n 0, 1) := by decide +kernel
theorem dX12_lookAll_1 : decode cX12_lookAll 1 = .ok (.getfield 73, 3) := by decide +kernel
theorem dX12_lookAll_4 : decode cX12_lookAll 4 = .ok (.bipush 81, 2) := by decide +kernel
theorem dX12_lookAll_6 : decode cX12_lookAll 6 = .ok (.iload_n 1, 1) := by decide +kernel
theorem dX12_lookAll_7 : decode cX12_lookAll 7 = .ok (.imul, 1) := by decide +kernel
theorem dX12_lookAll_8 : decode cX12_lookAll 8 = .ok (.aload_n 0, 1) := by decide +kernel
theorem dX12_lookAll_9 : decode cX12_lookAll 9 = .ok (.iload_n 1, 1) := by decide +kernel
theorem dX12_lookAll_10 : decode cX12_lookAll 10 = .ok (.invokevirtual 254, 3) := by decide +kernel
theorem dX12_lookAll_13 : decode cX12_lookAll 13 = .ok (.iastore, 1) := by decide +kernel
theorem dX12_lookAll_14 : decode cX12_lookAll 14 = .ok (.iconst 0, 1) := by decide +kernel
theorem dX12_lookAll_15 : decode cX12_lookAll 15 = .ok (.istore_n 2, 1) := by decide +kernel
theorem dX12_lookAll_16 : decode cX12_lookAll 16 = .ok (.iload_n 2, 1) := by decide +kernel
theorem dX12_lookAll_17 : decode cX12_lookAll 17 = .ok (.aload_n 0, 1) := by decide +kernel
theorem dX12_lookAll_18 : decode cX12_lookAll 18 = .ok (.getfield 94, 3) := by decide +kernel
theorem dX12_lookAll_21 : decode cX12_lookAll 21 = .ok (.if_icmp .ge 107, 3) := by decide +kernel
theorem dX12_lookAll_24 : decode cX12_lookAll 24 = .ok (.aload_n 0, 1) := by decide +kernel
theorem dX12_lookAll_25 : decode cX12_lookAll 25 = .ok (.getfield 73, 3) := by decide +kernel
theorem dX12_lookAll_28 : decode cX12_lookAll 28 = .ok (.bipush 81, 2) := by decide +kernel
theorem dX12_lookAll_30 : decode cX12_lookAll 30 = .ok (.iload_n 1, 1) := by decide +kernel
theorem dX12_lookAll_31 : decode cX12_lookAll 31 = .ok (.imul, 1) := by decide +kernel
theorem dX12_lookAll_32 : decode cX12_lookAll 32 = .ok (.iconst 1, 1) := by decide +kernel
theorem dX12_lookAll_33 : decode cX12_lookAll 33 = .ok (.iadd, 1) := by decide +kernel
theorem dX12_lookAll_34 : decode cX12_lookAll 34 = .ok (.iload_n 2, 1) := by decide +kernel
theorem dX12_lookAll_35 : decode cX12_lookAll 35 = .ok (.iadd, 1) := by decide +kernel
theorem dX12_lookAll_36 : decode cX12_lookAll 36 = .ok (.aload_n 0, 1) := by decide +kernel
theorem dX12_lookAll_37 : decode cX12_lookAll 37 = .ok (.getfield 24, 3) := by decide +kernel
theorem dX12_lookAll_40 : decode cX12_lookAll 40 = .ok (.iload_n 2, 1) := by decide +kernel
theorem dX12_lookAll_41 : decode cX12_lookAll 41 = .ok (.baload, 1) := by decide +kernel
theorem dX12_lookAll_42 : decode cX12_lookAll 42 = .ok (.ifCond .eq 7, 3) := by decide +kernel
theorem dX12_lookAll_45 : decode cX12_lookAll 45 = .ok (.iconst (-1), 1) := by decide +kernel
theorem dX12_lookAll_46 : decode cX12_lookAll 46 = .ok (.goto 9, 3) := by decide +kernel
theorem dX12_lookAll_49 : decode cX12_lookAll 49 = .ok (.aload_n 0, 1) := by decide +kernel
theorem dX12_lookAll_50 : decode cX12_lookAll 50 = .ok (.iload_n 1, 1) := by decide +kernel
theorem dX12_lookAll_51 : decode cX12_lookAll 51 = .ok (.iload_n 2, 1) := by decide +kernel
theorem dX12_lookAll_52 : decode cX12_lookAll 52 = .ok (.invokevirtual 257, 3) := by decide +kernel
theorem dX12_lookAll_55 : decode cX12_lookAll 55 = .ok (.iastore, 1) := by decide +kernel
theorem dX12_lookAll_56 : decode cX12_lookAll 56 = .ok (.iload_n 2, 1) := by decide +kernel
theorem dX12_lookAll_57 : decode cX12_lookAll 57 = .ok (.iconst 1, 1) := by decide +kernel
theorem dX12_lookAll_58 : decode cX12_lookAll 58 = .ok (.iadd, 1) := by decide +kernel
theorem dX12_lookAll_59 : decode cX12_lookAll 59 = .ok (.istore_n 3, 1) := by decide +kernel
theorem dX12_lookAll_60 : decode cX12_lookAll 60 = .ok (.iload_n 3, 1) := by decide +kernel
theorem dX12_lookAll_61 : decode cX12_lookAll 61 = .ok (.aload_n 0, 1) := by decide +kernel
theorem dX12_lookAll_62 : decode cX12_lookAll 62 = .ok (.getfield 94, 3) := by decide +kernel
theorem dX12_lookAll_65 : decode cX12_lookAll 65 = .ok (.if_icmp .ge 57, 3) := by decide +kernel
theorem dX12_lookAll_68 : decode cX12_lookAll 68 = .ok (.aload_n 0, 1) := by decide +kernel
theorem dX12_lookAll_69 : decode cX12_lookAll 69 = .ok (.getfield 73, 3) := by decide +kernel
theorem dX12_lookAll_72 : decode cX12_lookAll 72 = .ok (.bipush 81, 2) := by decide +kernel
theorem dX12_lookAll_74 : decode cX12_lookAll 74 = .ok (.iload_n 1, 1) := by decide +kernel
theorem dX12_lookAll_75 : decode cX12_lookAll 75 = .ok (.imul, 1) := by decide +kernel
theorem dX12_lookAll_76 : decode cX12_lookAll 76 = .ok (.bipush 9, 2) := by decide +kernel
theorem dX12_lookAll_78 : decode cX12_lookAll 78 = .ok (.iadd, 1) := by decide +kernel
theorem dX12_lookAll_79 : decode cX12_lookAll 79 = .ok (.bipush 8, 2) := by decide +kernel
theorem dX12_lookAll_81 : decode cX12_lookAll 81 = .ok (.iload_n 2, 1) := by decide +kernel
theorem dX12_lookAll_82 : decode cX12_lookAll 82 = .ok (.imul, 1) := by decide +kernel
theorem dX12_lookAll_83 : decode cX12_lookAll 83 = .ok (.iadd, 1) := by decide +kernel
theorem dX12_lookAll_84 : decode cX12_lookAll 84 = .ok (.iload_n 3, 1) := by decide +kernel
theorem dX12_lookAll_85 : decode cX12_lookAll 85 = .ok (.iadd, 1) := by decide +kernel
theorem dX12_lookAll_86 : decode cX12_lookAll 86 = .ok (.aload_n 0, 1) := by decide +kernel
theorem dX12_lookAll_87 : decode cX12_lookAll 87 = .ok (.getfield 24, 3) := by decide +kernel
theorem dX12_lookAll_90 : decode cX12_lookAll 90 = .ok (.iload_n 2, 1) := by decide +kernel
theorem dX12_lookAll_91 : decode cX12_lookAll 91 = .ok (.baload, 1) := by decide +kernel
theorem dX12_lookAll_92 : decode cX12_lookAll 92 = .ok (.ifCond .ne 12, 3) := by decide +kernel
theorem dX12_lookAll_95 : decode cX12_lookAll 95 = .ok (.aload_n 0, 1) := by decide +kernel
theorem dX12_lookAll_96 : decode cX12_lookAll 96 = .ok (.getfield 24, 3) := by decide +kernel
theorem dX12_lookAll_99 : decode cX12_lookAll 99 = .ok (.iload_n 3, 1) := by decide +kernel
theorem dX12_lookAll_100 : decode cX12_lookAll 100 = .ok (.baload, 1) := by decide +kernel
theorem dX12_lookAll_101 : decode cX12_lookAll 101 = .ok (.ifCond .eq 7, 3) := by decide +kernel
theorem dX12_lookAll_104 : decode cX12_lookAll 104 = .ok (.iconst (-1), 1) := by decide +kernel
theorem dX12_lookAll_105 : decode cX12_lookAll 105 = .ok (.goto 10, 3) := by decide +kernel
theorem dX12_lookAll_108 : decode cX12_lookAll 108 = .ok (.aload_n 0, 1) := by decide +kernel
theorem dX12_lookAll_109 : decode cX12_lookAll 109 = .ok (.iload_n 1, 1) := by decide +kernel
theorem dX12_lookAll_110 : decode cX12_lookAll 110 = .ok (.iload_n 2, 1) := by decide +kernel
theorem dX12_lookAll_111 : decode cX12_lookAll 111 = .ok (.iload_n 3, 1) := by decide +kernel
theorem dX12_lookAll_112 : decode cX12_lookAll 112 = .ok (.invokevirtual 260, 3) := by decide +kernel
theorem dX12_lookAll_115 : decode cX12_lookAll 115 = .ok (.iastore, 1) := by decide +kernel
theorem dX12_lookAll_116 : decode cX12_lookAll 116 = .ok (.iinc 3 1, 3) := by decide +kernel
theorem dX12_lookAll_119 : decode cX12_lookAll 119 = .ok (.goto (-59), 3) := by decide +kernel
theorem dX12_lookAll_122 : decode cX12_lookAll 122 = .ok (.iinc 2 1, 3) := by decide +kernel
theorem dX12_lookAll_125 : decode cX12_lookAll 125 = .ok (.goto (-109), 3) := by decide +kernel
theorem dX12_lookAll_128 : decode cX12_lookAll 128 = .ok (.return_, 1) := by decide +kernel
theorem dX12_better_0 : decode cX12_better 0 = .ok (.iload_n 1, 1) := by decide +kernel
theorem dX12_better_1 : decode cX12_better 1 = .ok (.aload_n 0, 1) := by decide +kernel
theorem dX12_better_2 : decode cX12_better 2 = .ok (.getfield 266, 3) := by decide +kernel
theorem dX12_better_5 : decode cX12_better 5 = .ok (.if_icmp .ge 13, 3) := by decide +kernel
theorem dX12_better_8 : decode cX12_better 8 = .ok (.aload_n 0, 1) := by decide +kernel
theorem dX12_better_9 : decode cX12_better 9 = .ok (.iload_n 1, 1) := by decide +kernel
theorem dX12_better_10 : decode cX12_better 10 = .ok (.putfield 266, 3) := by decide +kernel
theorem dX12_better_13 : decode cX12_better 13 = .ok (.aload_n 0, 1) := by decide +kernel
theorem dX12_better_14 : decode cX12_better 14 = .ok (.iload_n 2, 1) := by decide +kernel
theorem dX12_better_15 : decode cX12_better 15 = .ok (.putfield 269, 3) := by decide +kernel
theorem dX12_better_18 : decode cX12_better 18 = .ok (.return_, 1) := by decide +kernel
theorem dX12_seekBest_0 : decode cX12_seekBest 0 = .ok (.aload_n 0, 1) := by decide +kernel
theorem dX12_seekBest_1 : decode cX12_seekBest 1 = .ok (.aload_n 0, 1) := by decide +kernel
theorem dX12_seekBest_2 : decode cX12_seekBest 2 = .ok (.getfield 73, 3) := by decide +kernel
theorem dX12_seekBest_5 : decode cX12_seekBest 5 = .ok (.bipush 81, 2) := by decide +kernel
theorem dX12_seekBest_7 : decode cX12_seekBest 7 = .ok (.iload_n 1, 1) := by decide +kernel
theorem dX12_seekBest_8 : decode cX12_seekBest 8 = .ok (.imul, 1) := by decide +kernel
theorem dX12_seekBest_9 : decode cX12_seekBest 9 = .ok (.iaload, 1) := by decide +kernel
theorem dX12_seekBest_10 : decode cX12_seekBest 10 = .ok (.putfield 266, 3) := by decide +kernel
theorem dX12_seekBest_13 : decode cX12_seekBest 13 = .ok (.aload_n 0, 1) := by decide +kernel
theorem dX12_seekBest_14 : decode cX12_seekBest 14 = .ok (.iconst 0, 1) := by decide +kernel
theorem dX12_seekBest_15 : decode cX12_seekBest 15 = .ok (.putfield 269, 3) := by decide +kernel
theorem dX12_seekBest_18 : decode cX12_seekBest 18 = .ok (.iconst 0, 1) := by decide +kernel
theorem dX12_seekBest_19 : decode cX12_seekBest 19 = .ok (.istore_n 3, 1) := by decide +kernel
theorem dX12_seekBest_20 : decode cX12_seekBest 20 = .ok (.iload_n 3, 1) := by decide +kernel
theorem dX12_seekBest_21 : decode cX12_seekBest 21 = .ok (.aload_n 0, 1) := by decide +kernel
theorem dX12_seekBest_22 : decode cX12_seekBest 22 = .ok (.getfield 94, 3) := by decide +kernel
theorem dX12_seekBest_25 : decode cX12_seekBest 25 = .ok (.if_icmp .ge 47, 3) := by decide +kernel
theorem dX12_seekBest_28 : decode cX12_seekBest 28 = .ok (.iload_n 2, 1) := by decide +kernel
theorem dX12_seekBest_29 : decode cX12_seekBest 29 = .ok (.iload_n 3, 1) := by decide +kernel
theorem dX12_seekBest_30 : decode cX12_seekBest 30 = .ok (.ishr, 1) := by decide +kernel
theorem dX12_seekBest_31 : decode cX12_seekBest 31 = .ok (.iconst 1, 1) := by decide +kernel
theorem dX12_seekBest_32 : decode cX12_seekBest 32 = .ok (.iand, 1) := by decide +kernel
theorem dX12_seekBest_33 : decode cX12_seekBest 33 = .ok (.iconst 1, 1) := by decide +kernel
theorem dX12_seekBest_34 : decode cX12_seekBest 34 = .ok (.if_icmp .ne 32, 3) := by decide +kernel
theorem dX12_seekBest_37 : decode cX12_seekBest 37 = .ok (.aload_n 0, 1) := by decide +kernel
theorem dX12_seekBest_38 : decode cX12_seekBest 38 = .ok (.getfield 24, 3) := by decide +kernel
theorem dX12_seekBest_41 : decode cX12_seekBest 41 = .ok (.iload_n 3, 1) := by decide +kernel
theorem dX12_seekBest_42 : decode cX12_seekBest 42 = .ok (.baload, 1) := by decide +kernel
theorem dX12_seekBest_43 : decode cX12_seekBest 43 = .ok (.ifCond .ne 23, 3) := by decide +kernel
theorem dX12_seekBest_46 : decode cX12_seekBest 46 = .ok (.aload_n 0, 1) := by decide +kernel
theorem dX12_seekBest_47 : decode cX12_seekBest 47 = .ok (.aload_n 0, 1) := by decide +kernel
theorem dX12_seekBest_48 : decode cX12_seekBest 48 = .ok (.getfield 73, 3) := by decide +kernel
theorem dX12_seekBest_51 : decode cX12_seekBest 51 = .ok (.bipush 81, 2) := by decide +kernel
theorem dX12_seekBest_53 : decode cX12_seekBest 53 = .ok (.iload_n 1, 1) := by decide +kernel
theorem dX12_seekBest_54 : decode cX12_seekBest 54 = .ok (.imul, 1) := by decide +kernel
theorem dX12_seekBest_55 : decode cX12_seekBest 55 = .ok (.iconst 1, 1) := by decide +kernel
theorem dX12_seekBest_56 : decode cX12_seekBest 56 = .ok (.iadd, 1) := by decide +kernel
theorem dX12_seekBest_57 : decode cX12_seekBest 57 = .ok (.iload_n 3, 1) := by decide +kernel
theorem dX12_seekBest_58 : decode cX12_seekBest 58 = .ok (.iadd, 1) := by decide +kernel
theorem dX12_seekBest_59 : decode cX12_seekBest 59 = .ok (.iaload, 1) := by decide +kernel
theorem dX12_seekBest_60 : decode cX12_seekBest 60 = .ok (.iconst 1, 1) := by decide +kernel
theorem dX12_seekBest_61 : decode cX12_seekBest 61 = .ok (.iload_n 3, 1) := by decide +kernel
theorem dX12_seekBest_62 : decode cX12_seekBest 62 = .ok (.iadd, 1) := by decide +kernel
theorem dX12_seekBest_63 : decode cX12_seekBest 63 = .ok (.invokevirtual 272, 3) := by decide +kernel
theorem dX12_seekBest_66 : decode cX12_seekBest 66 = .ok (.iinc 3 1, 3) := by decide +kernel
theorem dX12_seekBest_69 : decode cX12_seekBest 69 = .ok (.goto (-49), 3) := by decide +kernel
theorem dX12_seekBest_72 : decode cX12_seekBest 72 = .ok (.iconst 0, 1) := by decide +kernel
theorem dX12_seekBest_73 : decode cX12_seekBest 73 = .ok (.istore_n 3, 1) := by decide +kernel
theorem dX12_seekBest_74 : decode cX12_seekBest 74 = .ok (.iload_n 3, 1) := by decide +kernel
theorem dX12_seekBest_75 : decode cX12_seekBest 75 = .ok (.aload_n 0, 1) := by decide +kernel
theorem dX12_seekBest_76 : decode cX12_seekBest 76 = .ok (.getfield 94, 3) := by decide +kernel
theorem dX12_seekBest_79 : decode cX12_seekBest 79 = .ok (.if_icmp .ge 96, 3) := by decide +kernel
theorem dX12_seekBest_82 : decode cX12_seekBest 82 = .ok (.iload_n 3, 1) := by decide +kernel
theorem dX12_seekBest_83 : decode cX12_seekBest 83 = .ok (.iconst 1, 1) := by decide +kernel
theorem dX12_seekBest_84 : decode cX12_seekBest 84 = .ok (.iadd, 1) := by decide +kernel
theorem dX12_seekBest_85 : decode cX12_seekBest 85 = .ok (.istore 4, 2) := by decide +kernel
theorem dX12_seekBest_87 : decode cX12_seekBest 87 = .ok (.iload 4, 2) := by decide +kernel
theorem dX12_seekBest_89 : decode cX12_seekBest 89 = .ok (.aload_n 0, 1) := by decide +kernel
theorem dX12_seekBest_90 : decode cX12_seekBest 90 = .ok (.getfield 94, 3) := by decide +kernel
theorem dX12_seekBest_93 : decode cX12_seekBest 93 = .ok (.if_icmp .ge 76, 3) := by decide +kernel
theorem dX12_seekBest_96 : decode cX12_seekBest 96 = .ok (.iload_n 2, 1) := by decide +kernel
theorem dX12_seekBest_97 : decode cX12_seekBest 97 = .ok (.iload_n 3, 1) := by decide +kernel
theorem dX12_seekBest_98 : decode cX12_seekBest 98 = .ok (.ishr, 1) := by decide +kernel
theorem dX12_seekBest_99 : decode cX12_seekBest 99 = .ok (.iload_n 2, 1) := by decide +kernel
theorem dX12_seekBest_100 : decode cX12_seekBest 100 = .ok (.iload 4, 2) := by decide +kernel
theorem dX12_seekBest_102 : decode cX12_seekBest 102 = .ok (.ishr, 1) := by decide +kernel
theorem dX12_seekBest_103 : decode cX12_seekBest 103 = .ok (.iand, 1) := by decide +kernel
theorem dX12_seekBest_104 : decode cX12_seekBest 104 = .ok (.iconst 1, 1) := by decide +kernel
theorem dX12_seekBest_105 : decode cX12_seekBest 105 = .ok (.iand, 1) := by decide +kernel
theorem dX12_seekBest_106 : decode cX12_seekBest 106 = .ok (.iconst 1, 1) := by decide +kernel
theorem dX12_seekBest_107 : decode cX12_seekBest 107 = .ok (.if_icmp .ne 56, 3) := by decide +kernel
theorem dX12_seekBest_110 : decode cX12_seekBest 110 = .ok (.aload_n 0, 1) := by decide +kernel
theorem dX12_seekBest_111 : decode cX12_seekBest 111 = .ok (.getfield 24, 3) := by decide +kernel
theorem dX12_seekBest_114 : decode cX12_seekBest 114 = .ok (.iload_n 3, 1) := by decide +kernel
theorem dX12_seekBest_115 : decode cX12_seekBest 115 = .ok (.baload, 1) := by decide +kernel
theorem dX12_seekBest_116 : decode cX12_seekBest 116 = .ok (.ifCond .ne 47, 3) := by decide +kernel
theorem dX12_seekBest_119 : decode cX12_seekBest 119 = .ok (.aload_n 0, 1) := by decide +kernel
theorem dX12_seekBest_120 : decode cX12_seekBest 120 = .ok (.getfield 24, 3) := by decide +kernel
theorem dX12_seekBest_123 : decode cX12_seekBest 123 = .ok (.iload 4, 2) := by decide +kernel
theorem dX12_seekBest_125 : decode cX12_seekBest 125 = .ok (.baload, 1) := by decide +kernel
theorem dX12_seekBest_126 : decode cX12_seekBest 126 = .ok (.ifCond .ne 37, 3) := by decide +kernel
theorem dX12_seekBest_129 : decode cX12_seekBest 129 = .ok (.aload_n 0, 1) := by decide +kernel
theorem dX12_seekBest_130 : decode cX12_seekBest 130 = .ok (.aload_n 0, 1) := by decide +kernel
theorem dX12_seekBest_131 : decode cX12_seekBest 131 = .ok (.getfield 73, 3) := by decide +kernel
theorem dX12_seekBest_134 : decode cX12_seekBest 134 = .ok (.bipush 81, 2) := by decide +kernel
theorem dX12_seekBest_136 : decode cX12_seekBest 136 = .ok (.iload_n 1, 1) := by decide +kernel
theorem dX12_seekBest_137 : decode cX12_seekBest 137 = .ok (.imul, 1) := by decide +kernel
theorem dX12_seekBest_138 : decode cX12_seekBest 138 = .ok (.bipush 9, 2) := by decide +kernel
theorem dX12_seekBest_140 : decode cX12_seekBest 140 = .ok (.iadd, 1) := by decide +kernel
theorem dX12_seekBest_141 : decode cX12_seekBest 141 = .ok (.bipush 8, 2) := by decide +kernel
theorem dX12_seekBest_143 : decode cX12_seekBest 143 = .ok (.iload_n 3, 1) := by decide +kernel
theorem dX12_seekBest_144 : decode cX12_seekBest 144 = .ok (.imul, 1) := by decide +kernel
theorem dX12_seekBest_145 : decode cX12_seekBest 145 = .ok (.iadd, 1) := by decide +kernel
theorem dX12_seekBest_146 : decode cX12_seekBest 146 = .ok (.iload 4, 2) := by decide +kernel
theorem dX12_seekBest_148 : decode cX12_seekBest 148 = .ok (.iadd, 1) := by decide +kernel
theorem dX12_seekBest_149 : decode cX12_seekBest 149 = .ok (.iaload, 1) := by decide +kernel
theorem dX12_seekBest_150 : decode cX12_seekBest 150 = .ok (.bipush 100, 2) := by decide +kernel
theorem dX12_seekBest_152 : decode cX12_seekBest 152 = .ok (.bipush 10, 2) := by decide +kernel
theorem dX12_seekBest_154 : decode cX12_seekBest 154 = .ok (.iload_n 3, 1) := by decide +kernel
theorem dX12_seekBest_155 : decode cX12_seekBest 155 = .ok (.imul, 1) := by decide +kernel
theorem dX12_seekBest_156 : decode cX12_seekBest 156 = .ok (.iadd, 1) := by decide +kernel
theorem dX12_seekBest_157 : decode cX12_seekBest 157 = .ok (.iload 4, 2) := by decide +kernel
theorem dX12_seekBest_159 : decode cX12_seekBest 159 = .ok (.iadd, 1) := by decide +kernel
theorem dX12_seekBest_160 : decode cX12_seekBest 160 = .ok (.invokevirtual 272, 3) := by decide +kernel
theorem dX12_seekBest_163 : decode cX12_seekBest 163 = .ok (.iinc 4 1, 3) := by decide +kernel
theorem dX12_seekBest_166 : decode cX12_seekBest 166 = .ok (.goto (-79), 3) := by decide +kernel
theorem dX12_seekBest_169 : decode cX12_seekBest 169 = .ok (.iinc 3 1, 3) := by decide +kernel
theorem dX12_seekBest_172 : decode cX12_seekBest 172 = .ok (.goto (-98), 3) := by decide +kernel
theorem dX12_seekBest_175 : decode cX12_seekBest 175 = .ok (.return_, 1) := by decide +kernel
theorem dX12_best_0 : decode cX12_best 0 = .ok (.aload_n 0, 1) := by decide +kernel
theorem dX12_best_1 : decode cX12_best 1 = .ok (.iload_n 1, 1) := by decide +kernel
theorem dX12_best_2 : decode cX12_best 2 = .ok (.invokevirtual 200, 3) := by decide +kernel
theorem dX12_best_5 : decode cX12_best 5 = .ok (.ifCond .ne 6, 3) := by decide +kernel
theorem dX12_best_8 : decode cX12_best 8 = .ok (.bipush (-101), 2) := by decide +kernel
theorem dX12_best_10 : decode cX12_best 10 = .ok (.ireturn, 1) := by decide +kernel
theorem dX12_best_11 : decode cX12_best 11 = .ok (.iload_n 2, 1) := by decide +kernel
theorem dX12_best_12 : decode cX12_best 12 = .ok (.iconst 0, 1) := by decide +kernel
theorem dX12_best_13 : decode cX12_best 13 = .ok (.sipush 255, 3) := by decide +kernel
theorem dX12_best_16 : decode cX12_best 16 = .ok (.invokestatic 82, 3) := by decide +kernel
theorem dX12_best_19 : decode cX12_best 19 = .ok (.ifCond .ne 6, 3) := by decide +kernel
theorem dX12_best_22 : decode cX12_best 22 = .ok (.bipush (-102), 2) := by decide +kernel
theorem dX12_best_24 : decode cX12_best 24 = .ok (.ireturn, 1) := by decide +kernel
theorem dX12_best_25 : decode cX12_best 25 = .ok (.aload_n 0, 1) := by decide +kernel
theorem dX12_best_26 : decode cX12_best 26 = .ok (.iload_n 1, 1) := by decide +kernel
theorem dX12_best_27 : decode cX12_best 27 = .ok (.invokevirtual 275, 3) := by decide +kernel
theorem dX12_best_30 : decode cX12_best 30 = .ok (.aload_n 0, 1) := by decide +kernel
theorem dX12_best_31 : decode cX12_best 31 = .ok (.iload_n 1, 1) := by decide +kernel
theorem dX12_best_32 : decode cX12_best 32 = .ok (.iload_n 2, 1) := by decide +kernel
theorem dX12_best_33 : decode cX12_best 33 = .ok (.invokevirtual 278, 3) := by decide +kernel
theorem dX12_best_36 : decode cX12_best 36 = .ok (.aload_n 0, 1) := by decide +kernel
theorem dX12_best_37 : decode cX12_best 37 = .ok (.getfield 269, 3) := by decide +kernel
theorem dX12_best_40 : decode cX12_best 40 = .ok (.ireturn, 1) := by decide +kernel
theorem dX12_lookAtAll_0 : decode cX12_lookAtAll 0 = .ok (.iconst 0, 1) := by decide +kernel
theorem dX12_lookAtAll_1 : decode cX12_lookAtAll 1 = .ok (.istore_n 1, 1) := by decide +kernel
theorem dX12_lookAtAll_2 : decode cX12_lookAtAll 2 = .ok (.iload_n 1, 1) := by decide +kernel
theorem dX12_lookAtAll_3 : decode cX12_lookAtAll 3 = .ok (.aload_n 0, 1) := by decide +kernel
theorem dX12_lookAtAll_4 : decode cX12_lookAtAll 4 = .ok (.getfield 191, 3) := by decide +kernel
theorem dX12_lookAtAll_7 : decode cX12_lookAtAll 7 = .ok (.if_icmp .ge 14, 3) := by decide +kernel
theorem dX12_lookAtAll_10 : decode cX12_lookAtAll 10 = .ok (.aload_n 0, 1) := by decide +kernel
theorem dX12_lookAtAll_11 : decode cX12_lookAtAll 11 = .ok (.iload_n 1, 1) := by decide +kernel
theorem dX12_lookAtAll_12 : decode cX12_lookAtAll 12 = .ok (.invokevirtual 275, 3) := by decide +kernel
theorem dX12_lookAtAll_15 : decode cX12_lookAtAll 15 = .ok (.iinc 1 1, 3) := by decide +kernel
theorem dX12_lookAtAll_18 : decode cX12_lookAtAll 18 = .ok (.goto (-16), 3) := by decide +kernel
theorem dX12_lookAtAll_21 : decode cX12_lookAtAll 21 = .ok (.return_, 1) := by decide +kernel
theorem dX12_workOf_0 : decode cX12_workOf 0 = .ok (.iconst 0, 1) := by decide +kernel
theorem dX12_workOf_1 : decode cX12_workOf 1 = .ok (.istore_n 2, 1) := by decide +kernel
theorem dX12_workOf_2 : decode cX12_workOf 2 = .ok (.iconst 0, 1) := by decide +kernel
theorem dX12_workOf_3 : decode cX12_workOf 3 = .ok (.istore_n 3, 1) := by decide +kernel
theorem dX12_workOf_4 : decode cX12_workOf 4 = .ok (.iload_n 3, 1) := by decide +kernel
theorem dX12_workOf_5 : decode cX12_workOf 5 = .ok (.aload_n 0, 1) := by decide +kernel
theorem dX12_workOf_6 : decode cX12_workOf 6 = .ok (.getfield 191, 3) := by decide +kernel
theorem dX12_workOf_9 : decode cX12_workOf 9 = .ok (.if_icmp .ge 29, 3) := by decide +kernel
theorem dX12_workOf_12 : decode cX12_workOf 12 = .ok (.aload_n 0, 1) := by decide +kernel
theorem dX12_workOf_13 : decode cX12_workOf 13 = .ok (.iload_n 3, 1) := by decide +kernel
theorem dX12_workOf_14 : decode cX12_workOf 14 = .ok (.iload_n 1, 1) := by decide +kernel
theorem dX12_workOf_15 : decode cX12_workOf 15 = .ok (.invokevirtual 278, 3) := by decide +kernel
theorem dX12_workOf_18 : decode cX12_workOf 18 = .ok (.iload_n 2, 1) := by decide +kernel
theorem dX12_workOf_19 : decode cX12_workOf 19 = .ok (.aload_n 0, 1) := by decide +kernel
theorem dX12_workOf_20 : decode cX12_workOf 20 = .ok (.getfield 55, 3) := by decide +kernel
theorem dX12_workOf_23 : decode cX12_workOf 23 = .ok (.iload_n 3, 1) := by decide +kernel
theorem dX12_workOf_24 : decode cX12_workOf 24 = .ok (.iaload, 1) := by decide +kernel
theorem dX12_workOf_25 : decode cX12_workOf 25 = .ok (.aload_n 0, 1) := by decide +kernel
theorem dX12_workOf_26 : decode cX12_workOf 26 = .ok (.getfield 266, 3) := by decide +kernel
theorem dX12_workOf_29 : decode cX12_workOf 29 = .ok (.imul, 1) := by decide +kernel
theorem dX12_workOf_30 : decode cX12_workOf 30 = .ok (.iadd, 1) := by decide +kernel
theorem dX12_workOf_31 : decode cX12_workOf 31 = .ok (.istore_n 2, 1) := by decide +kernel
theorem dX12_workOf_32 : decode cX12_workOf 32 = .ok (.iinc 3 1, 3) := by decide +kernel
theorem dX12_workOf_35 : decode cX12_workOf 35 = .ok (.goto (-31), 3) := by decide +kernel
theorem dX12_workOf_38 : decode cX12_workOf 38 = .ok (.iconst 0, 1) := by decide +kernel
theorem dX12_workOf_39 : decode cX12_workOf 39 = .ok (.istore_n 3, 1) := by decide +kernel
theorem dX12_workOf_40 : decode cX12_workOf 40 = .ok (.iload_n 3, 1) := by decide +kernel
theorem dX12_workOf_41 : decode cX12_workOf 41 = .ok (.aload_n 0, 1) := by decide +kernel
theorem dX12_workOf_42 : decode cX12_workOf 42 = .ok (.getfield 94, 3) := by decide +kernel
theorem dX12_workOf_45 : decode cX12_workOf 45 = .ok (.if_icmp .ge 46, 3) := by decide +kernel
theorem dX12_workOf_48 : decode cX12_workOf 48 = .ok (.iload_n 2, 1) := by decide +kernel
theorem dX12_workOf_49 : decode cX12_workOf 49 = .ok (.iload_n 1, 1) := by decide +kernel
theorem dX12_workOf_50 : decode cX12_workOf 50 = .ok (.iload_n 3, 1) := by decide +kernel
theorem dX12_workOf_51 : decode cX12_workOf 51 = .ok (.ishr, 1) := by decide +kernel
theorem dX12_workOf_52 : decode cX12_workOf 52 = .ok (.iconst 1, 1) := by decide +kernel
theorem dX12_workOf_53 : decode cX12_workOf 53 = .ok (.iand, 1) := by decide +kernel
theorem dX12_workOf_54 : decode cX12_workOf 54 = .ok (.iconst 1, 1) := by decide +kernel
theorem dX12_workOf_55 : decode cX12_workOf 55 = .ok (.if_icmp .ne 27, 3) := by decide +kernel
theorem dX12_workOf_58 : decode cX12_workOf 58 = .ok (.aload_n 0, 1) := by decide +kernel
theorem dX12_workOf_59 : decode cX12_workOf 59 = .ok (.getfield 24, 3) := by decide +kernel
theorem dX12_workOf_62 : decode cX12_workOf 62 = .ok (.iload_n 3, 1) := by decide +kernel
theorem dX12_workOf_63 : decode cX12_workOf 63 = .ok (.baload, 1) := by decide +kernel
theorem dX12_workOf_64 : decode cX12_workOf 64 = .ok (.ifCond .ne 18, 3) := by decide +kernel
theorem dX12_workOf_67 : decode cX12_workOf 67 = .ok (.aload_n 0, 1) := by decide +kernel
theorem dX12_workOf_68 : decode cX12_workOf 68 = .ok (.getfield 281, 3) := by decide +kernel
theorem dX12_workOf_71 : decode cX12_workOf 71 = .ok (.aload_n 0, 1) := by decide +kernel
theorem dX12_workOf_72 : decode cX12_workOf 72 = .ok (.iload_n 3, 1) := by decide +kernel
theorem dX12_workOf_73 : decode cX12_workOf 73 = .ok (.invokevirtual 124, 3) := by decide +kernel
theorem dX12_workOf_76 : decode cX12_workOf 76 = .ok (.iconst 2, 1) := by decide +kernel
theorem dX12_workOf_77 : decode cX12_workOf 77 = .ok (.iadd, 1) := by decide +kernel
theorem dX12_workOf_78 : decode cX12_workOf 78 = .ok (.imul, 1) := by decide +kernel
theorem dX12_workOf_79 : decode cX12_workOf 79 = .ok (.goto 4, 3) := by decide +kernel
theorem dX12_workOf_82 : decode cX12_workOf 82 = .ok (.iconst 0, 1) := by decide +kernel
theorem dX12_workOf_83 : decode cX12_workOf 83 = .ok (.iadd, 1) := by decide +kernel
theorem dX12_workOf_84 : decode cX12_workOf 84 = .ok (.istore_n 2, 1) := by decide +kernel
theorem dX12_workOf_85 : decode cX12_workOf 85 = .ok (.iinc 3 1, 3) := by decide +kernel
theorem dX12_workOf_88 : decode cX12_workOf 88 = .ok (.goto (-48), 3) := by decide +kernel
theorem dX12_workOf_91 : decode cX12_workOf 91 = .ok (.iload_n 2, 1) := by decide +kernel
theorem dX12_workOf_92 : decode cX12_workOf 92 = .ok (.ireturn, 1) := by decide +kernel
theorem dX12_work_0 : decode cX12_work 0 = .ok (.iload_n 1, 1) := by decide +kernel
theorem dX12_work_1 : decode cX12_work 1 = .ok (.iconst 0, 1) := by decide +kernel
theorem dX12_work_2 : decode cX12_work 2 = .ok (.sipush 255, 3) := by decide +kernel
theorem dX12_work_5 : decode cX12_work 5 = .ok (.invokestatic 82, 3) := by decide +kernel
theorem dX12_work_8 : decode cX12_work 8 = .ok (.ifCond .ne 6, 3) := by decide +kernel
theorem dX12_work_11 : decode cX12_work 11 = .ok (.bipush (-102), 2) := by decide +kernel
theorem dX12_work_13 : decode cX12_work 13 = .ok (.ireturn, 1) := by decide +kernel
theorem dX12_work_14 : decode cX12_work 14 = .ok (.aload_n 0, 1) := by decide +kernel
theorem dX12_work_15 : decode cX12_work 15 = .ok (.invokevirtual 284, 3) := by decide +kernel
theorem dX12_work_18 : decode cX12_work 18 = .ok (.aload_n 0, 1) := by decide +kernel
theorem dX12_work_19 : decode cX12_work 19 = .ok (.iload_n 1, 1) := by decide +kernel
theorem dX12_work_20 : decode cX12_work 20 = .ok (.invokevirtual 287, 3) := by decide +kernel
theorem dX12_work_23 : decode cX12_work 23 = .ok (.ireturn, 1) := by decide +kernel
theorem dX12_upkeep_0 : decode cX12_upkeep 0 = .ok (.iload_n 1, 1) := by decide +kernel
theorem dX12_upkeep_1 : decode cX12_upkeep 1 = .ok (.invokestatic 136, 3) := by decide +kernel
theorem dX12_upkeep_4 : decode cX12_upkeep 4 = .ok (.ifCond .ne 6, 3) := by decide +kernel
theorem dX12_upkeep_7 : decode cX12_upkeep 7 = .ok (.bipush (-102), 2) := by decide +kernel
theorem dX12_upkeep_9 : decode cX12_upkeep 9 = .ok (.ireturn, 1) := by decide +kernel
theorem dX12_upkeep_10 : decode cX12_upkeep 10 = .ok (.aload_n 0, 1) := by decide +kernel
theorem dX12_upkeep_11 : decode cX12_upkeep 11 = .ok (.getfield 281, 3) := by decide +kernel
theorem dX12_upkeep_14 : decode cX12_upkeep 14 = .ok (.istore_n 2, 1) := by decide +kernel
theorem dX12_upkeep_15 : decode cX12_upkeep 15 = .ok (.aload_n 0, 1) := by decide +kernel
theorem dX12_upkeep_16 : decode cX12_upkeep 16 = .ok (.iload_n 1, 1) := by decide +kernel
theorem dX12_upkeep_17 : decode cX12_upkeep 17 = .ok (.putfield 281, 3) := by decide +kernel
theorem dX12_upkeep_20 : decode cX12_upkeep 20 = .ok (.iload_n 2, 1) := by decide +kernel
theorem dX12_upkeep_21 : decode cX12_upkeep 21 = .ok (.ireturn, 1) := by decide +kernel
theorem dX12_spaceOf_0 : decode cX12_spaceOf 0 = .ok (.iconst 0, 1) := by decide +kernel
theorem dX12_spaceOf_1 : decode cX12_spaceOf 1 = .ok (.istore_n 2, 1) := by decide +kernel
theorem dX12_spaceOf_2 : decode cX12_spaceOf 2 = .ok (.iconst 0, 1) := by decide +kernel
theorem dX12_spaceOf_3 : decode cX12_spaceOf 3 = .ok (.istore_n 3, 1) := by decide +kernel
theorem dX12_spaceOf_4 : decode cX12_spaceOf 4 = .ok (.iload_n 3, 1) := by decide +kernel
theorem dX12_spaceOf_5 : decode cX12_spaceOf 5 = .ok (.aload_n 0, 1) := by decide +kernel
theorem dX12_spaceOf_6 : decode cX12_spaceOf 6 = .ok (.getfield 94, 3) := by decide +kernel
theorem dX12_spaceOf_9 : decode cX12_spaceOf 9 = .ok (.if_icmp .ge 30, 3) := by decide +kernel
theorem dX12_spaceOf_12 : decode cX12_spaceOf 12 = .ok (.iload_n 2, 1) := by decide +kernel
theorem dX12_spaceOf_13 : decode cX12_spaceOf 13 = .ok (.iload_n 1, 1) := by decide +kernel
theorem dX12_spaceOf_14 : decode cX12_spaceOf 14 = .ok (.iload_n 3, 1) := by decide +kernel
theorem dX12_spaceOf_15 : decode cX12_spaceOf 15 = .ok (.ishr, 1) := by decide +kernel
theorem dX12_spaceOf_16 : decode cX12_spaceOf 16 = .ok (.iconst 1, 1) := by decide +kernel
theorem dX12_spaceOf_17 : decode cX12_spaceOf 17 = .ok (.iand, 1) := by decide +kernel
theorem dX12_spaceOf_18 : decode cX12_spaceOf 18 = .ok (.iconst 1, 1) := by decide +kernel
theorem dX12_spaceOf_19 : decode cX12_spaceOf 19 = .ok (.if_icmp .ne 11, 3) := by decide +kernel
theorem dX12_spaceOf_22 : decode cX12_spaceOf 22 = .ok (.aload_n 0, 1) := by decide +kernel
theorem dX12_spaceOf_23 : decode cX12_spaceOf 23 = .ok (.iload_n 3, 1) := by decide +kernel
theorem dX12_spaceOf_24 : decode cX12_spaceOf 24 = .ok (.invokevirtual 121, 3) := by decide +kernel
theorem dX12_spaceOf_27 : decode cX12_spaceOf 27 = .ok (.goto 4, 3) := by decide +kernel
theorem dX12_spaceOf_30 : decode cX12_spaceOf 30 = .ok (.iconst 0, 1) := by decide +kernel
theorem dX12_spaceOf_31 : decode cX12_spaceOf 31 = .ok (.iadd, 1) := by decide +kernel
theorem dX12_spaceOf_32 : decode cX12_spaceOf 32 = .ok (.istore_n 2, 1) := by decide +kernel
theorem dX12_spaceOf_33 : decode cX12_spaceOf 33 = .ok (.iinc 3 1, 3) := by decide +kernel
theorem dX12_spaceOf_36 : decode cX12_spaceOf 36 = .ok (.goto (-32), 3) := by decide +kernel
theorem dX12_spaceOf_39 : decode cX12_spaceOf 39 = .ok (.iload_n 2, 1) := by decide +kernel
theorem dX12_spaceOf_40 : decode cX12_spaceOf 40 = .ok (.ireturn, 1) := by decide +kernel
theorem dX12_isKept_0 : decode cX12_isKept 0 = .ok (.iload_n 1, 1) := by decide +kernel
theorem dX12_isKept_1 : decode cX12_isKept 1 = .ok (.aload_n 0, 1) := by decide +kernel
theorem dX12_isKept_2 : decode cX12_isKept 2 = .ok (.getfield 94, 3) := by decide +kernel
theorem dX12_isKept_5 : decode cX12_isKept 5 = .ok (.ishr, 1) := by decide +kernel
theorem dX12_isKept_6 : decode cX12_isKept 6 = .ok (.ifCond .ne 7, 3) := by decide +kernel
theorem dX12_isKept_9 : decode cX12_isKept 9 = .ok (.iconst 1, 1) := by decide +kernel
theorem dX12_isKept_10 : decode cX12_isKept 10 = .ok (.goto 4, 3) := by decide +kernel
theorem dX12_isKept_13 : decode cX12_isKept 13 = .ok (.iconst 0, 1) := by decide +kernel
theorem dX12_isKept_14 : decode cX12_isKept 14 = .ok (.istore_n 2, 1) := by decide +kernel
theorem dX12_isKept_15 : decode cX12_isKept 15 = .ok (.iconst 0, 1) := by decide +kernel
theorem dX12_isKept_16 : decode cX12_isKept 16 = .ok (.istore_n 3, 1) := by decide +kernel
theorem dX12_isKept_17 : decode cX12_isKept 17 = .ok (.iload_n 3, 1) := by decide +kernel
theorem dX12_isKept_18 : decode cX12_isKept 18 = .ok (.aload_n 0, 1) := by decide +kernel
theorem dX12_isKept_19 : decode cX12_isKept 19 = .ok (.getfield 94, 3) := by decide +kernel
theorem dX12_isKept_22 : decode cX12_isKept 22 = .ok (.if_icmp .ge 36, 3) := by decide +kernel
theorem dX12_isKept_25 : decode cX12_isKept 25 = .ok (.iload_n 2, 1) := by decide +kernel
theorem dX12_isKept_26 : decode cX12_isKept 26 = .ok (.ifCond .eq 24, 3) := by decide +kernel
theorem dX12_isKept_29 : decode cX12_isKept 29 = .ok (.iload_n 1, 1) := by decide +kernel
theorem dX12_isKept_30 : decode cX12_isKept 30 = .ok (.iload_n 3, 1) := by decide +kernel
theorem dX12_isKept_31 : decode cX12_isKept 31 = .ok (.ishr, 1) := by decide +kernel
theorem dX12_isKept_32 : decode cX12_isKept 32 = .ok (.iconst 1, 1) := by decide +kernel
theorem dX12_isKept_33 : decode cX12_isKept 33 = .ok (.iand, 1) := by decide +kernel
theorem dX12_isKept_34 : decode cX12_isKept 34 = .ok (.ifCond .eq 12, 3) := by decide +kernel
theorem dX12_isKept_37 : decode cX12_isKept 37 = .ok (.aload_n 0, 1) := by decide +kernel
theorem dX12_isKept_38 : decode cX12_isKept 38 = .ok (.getfield 24, 3) := by decide +kernel
theorem dX12_isKept_41 : decode cX12_isKept 41 = .ok (.iload_n 3, 1) := by decide +kernel
theorem dX12_isKept_42 : decode cX12_isKept 42 = .ok (.baload, 1) := by decide +kernel
theorem dX12_isKept_43 : decode cX12_isKept 43 = .ok (.ifCond .ne 7, 3) := by decide +kernel
theorem dX12_isKept_46 : decode cX12_isKept 46 = .ok (.iconst 1, 1) := by decide +kernel
theorem dX12_isKept_47 : decode cX12_isKept 47 = .ok (.goto 4, 3) := by decide +kernel
theorem dX12_isKept_50 : decode cX12_isKept 50 = .ok (.iconst 0, 1) := by decide +kernel
theorem dX12_isKept_51 : decode cX12_isKept 51 = .ok (.istore_n 2, 1) := by decide +kernel
theorem dX12_isKept_52 : decode cX12_isKept 52 = .ok (.iinc 3 1, 3) := by decide +kernel
theorem dX12_isKept_55 : decode cX12_isKept 55 = .ok (.goto (-38), 3) := by decide +kernel
theorem dX12_isKept_58 : decode cX12_isKept 58 = .ok (.iload_n 2, 1) := by decide +kernel
theorem dX12_isKept_59 : decode cX12_isKept 59 = .ok (.ireturn, 1) := by decide +kernel
theorem dX12_choose_0 : decode cX12_choose 0 = .ok (.iload_n 1, 1) := by decide +kernel
theorem dX12_choose_1 : decode cX12_choose 1 = .ok (.iconst 0, 1) := by decide +kernel
theorem dX12_choose_2 : decode cX12_choose 2 = .ok (.sipush 9999, 3) := by decide +kernel
theorem dX12_choose_5 : decode cX12_choose 5 = .ok (.invokestatic 82, 3) := by decide +kernel
theorem dX12_choose_8 : decode cX12_choose 8 = .ok (.ifCond .eq 12, 3) := by decide +kernel
theorem dX12_choose_11 : decode cX12_choose 11 = .ok (.iload_n 2, 1) := by decide +kernel
theorem dX12_choose_12 : decode cX12_choose 12 = .ok (.iconst 0, 1) := by decide +kernel
theorem dX12_choose_13 : decode cX12_choose 13 = .ok (.iconst 2, 1) := by decide +kernel
theorem dX12_choose_14 : decode cX12_choose 14 = .ok (.invokestatic 82, 3) := by decide +kernel
theorem dX12_choose_17 : decode cX12_choose 17 = .ok (.ifCond .ne 6, 3) := by decide +kernel
theorem dX12_choose_20 : decode cX12_choose 20 = .ok (.bipush (-102), 2) := by decide +kernel
theorem dX12_choose_22 : decode cX12_choose 22 = .ok (.ireturn, 1) := by decide +kernel
theorem dX12_choose_23 : decode cX12_choose 23 = .ok (.aload_n 0, 1) := by decide +kernel
theorem dX12_choose_24 : decode cX12_choose 24 = .ok (.getfield 290, 3) := by decide +kernel
theorem dX12_choose_27 : decode cX12_choose 27 = .ok (.bipush 20, 2) := by decide +kernel
theorem dX12_choose_29 : decode cX12_choose 29 = .ok (.if_icmp .ne 6, 3) := by decide +kernel
theorem dX12_choose_32 : decode cX12_choose 32 = .ok (.bipush (-103), 2) := by decide +kernel
theorem dX12_choose_34 : decode cX12_choose 34 = .ok (.ireturn, 1) := by decide +kernel
theorem dX12_choose_35 : decode cX12_choose 35 = .ok (.aload_n 0, 1) := by decide +kernel
theorem dX12_choose_36 : decode cX12_choose 36 = .ok (.dup, 1) := by decide +kernel
theorem dX12_choose_37 : decode cX12_choose 37 = .ok (.getfield 290, 3) := by decide +kernel
theorem dX12_choose_40 : decode cX12_choose 40 = .ok (.iconst 1, 1) := by decide +kernel
theorem dX12_choose_41 : decode cX12_choose 41 = .ok (.iadd, 1) := by decide +kernel
theorem dX12_choose_42 : decode cX12_choose 42 = .ok (.putfield 290, 3) := by decide +kernel
theorem dX12_choose_45 : decode cX12_choose 45 = .ok (.aload_n 0, 1) := by decide +kernel
theorem dX12_choose_46 : decode cX12_choose 46 = .ok (.invokevirtual 284, 3) := by decide +kernel
theorem dX12_choose_49 : decode cX12_choose 49 = .ok (.iconst 0, 1) := by decide +kernel
theorem dX12_choose_50 : decode cX12_choose 50 = .ok (.istore_n 3, 1) := by decide +kernel
theorem dX12_choose_51 : decode cX12_choose 51 = .ok (.aload_n 0, 1) := by decide +kernel
theorem dX12_choose_52 : decode cX12_choose 52 = .ok (.iconst 0, 1) := by decide +kernel
theorem dX12_choose_53 : decode cX12_choose 53 = .ok (.invokevirtual 287, 3) := by decide +kernel
theorem dX12_choose_56 : decode cX12_choose 56 = .ok (.istore 4, 2) := by decide +kernel
theorem dX12_choose_58 : decode cX12_choose 58 = .ok (.iconst 1, 1) := by decide +kernel
theorem dX12_choose_59 : decode cX12_choose 59 = .ok (.istore 5, 2) := by decide +kernel
theorem dX12_choose_61 : decode cX12_choose 61 = .ok (.iload 5, 2) := by decide +kernel
theorem dX12_choose_63 : decode cX12_choose 63 = .ok (.iconst 1, 1) := by decide +kernel
theorem dX12_choose_64 : decode cX12_choose 64 = .ok (.aload_n 0, 1) := by decide +kernel
theorem dX12_choose_65 : decode cX12_choose 65 = .ok (.getfield 94, 3) := by decide +kernel
theorem dX12_choose_68 : decode cX12_choose 68 = .ok (.ishl, 1) := by decide +kernel
theorem dX12_choose_69 : decode cX12_choose 69 = .ok (.if_icmp .ge 71, 3) := by decide +kernel
theorem dX12_choose_72 : decode cX12_choose 72 = .ok (.aload_n 0, 1) := by decide +kernel
theorem dX12_choose_73 : decode cX12_choose 73 = .ok (.iload 5, 2) := by decide +kernel
theorem dX12_choose_75 : decode cX12_choose 75 = .ok (.invokevirtual 293, 3) := by decide +kernel
theorem dX12_choose_78 : decode cX12_choose 78 = .ok (.ifCond .eq 56, 3) := by decide +kernel
theorem dX12_choose_81 : decode cX12_choose 81 = .ok (.aload_n 0, 1) := by decide +kernel
theorem dX12_choose_82 : decode cX12_choose 82 = .ok (.iload 5, 2) := by decide +kernel
theorem dX12_choose_84 : decode cX12_choose 84 = .ok (.invokevirtual 296, 3) := by decide +kernel
theorem dX12_choose_87 : decode cX12_choose 87 = .ok (.iload_n 1, 1) := by decide +kernel
theorem dX12_choose_88 : decode cX12_choose 88 = .ok (.if_icmp .gt 46, 3) := by decide +kernel
theorem dX12_choose_91 : decode cX12_choose 91 = .ok (.aload_n 0, 1) := by decide +kernel
theorem dX12_choose_92 : decode cX12_choose 92 = .ok (.iload 5, 2) := by decide +kernel
theorem dX12_choose_94 : decode cX12_choose 94 = .ok (.invokevirtual 287, 3) := by decide +kernel
theorem dX12_choose_97 : decode cX12_choose 97 = .ok (.istore 6, 2) := by decide +kernel
theorem dX12_choose_99 : decode cX12_choose 99 = .ok (.iload 6, 2) := by decide +kernel
theorem dX12_choose_101 : decode cX12_choose 101 = .ok (.iload 4, 2) := by decide +kernel
theorem dX12_choose_103 : decode cX12_choose 103 = .ok (.if_icmp .lt 24, 3) := by decide +kernel
theorem dX12_choose_106 : decode cX12_choose 106 = .ok (.iload 6, 2) := by decide +kernel
theorem dX12_choose_108 : decode cX12_choose 108 = .ok (.iload 4, 2) := by decide +kernel
theorem dX12_choose_110 : decode cX12_choose 110 = .ok (.if_icmp .ne 24, 3) := by decide +kernel
theorem dX12_choose_113 : decode cX12_choose 113 = .ok (.aload_n 0, 1) := by decide +kernel
theorem dX12_choose_114 : decode cX12_choose 114 = .ok (.iload 5, 2) := by decide +kernel
theorem dX12_choose_116 : decode cX12_choose 116 = .ok (.invokevirtual 296, 3) := by decide +kernel
theorem dX12_choose_119 : decode cX12_choose 119 = .ok (.aload_n 0, 1) := by decide +kernel
theorem dX12_choose_120 : decode cX12_choose 120 = .ok (.iload_n 3, 1) := by decide +kernel
theorem dX12_choose_121 : decode cX12_choose 121 = .ok (.invokevirtual 296, 3) := by decide +kernel
theorem dX12_choose_124 : decode cX12_choose 124 = .ok (.if_icmp .ge 10, 3) := by decide +kernel
theorem dX12_choose_127 : decode cX12_choose 127 = .ok (.iload 5, 2) := by decide +kernel
theorem dX12_choose_129 : decode cX12_choose 129 = .ok (.istore_n 3, 1) := by decide +kernel
theorem dX12_choose_130 : decode cX12_choose 130 = .ok (.iload 6, 2) := by decide +kernel
theorem dX12_choose_132 : decode cX12_choose 132 = .ok (.istore 4, 2) := by decide +kernel
theorem dX12_choose_134 : decode cX12_choose 134 = .ok (.iinc 5 1, 3) := by decide +kernel
theorem dX12_choose_137 : decode cX12_choose 137 = .ok (.goto (-76), 3) := by decide +kernel
theorem dX12_choose_140 : decode cX12_choose 140 = .ok (.iload_n 2, 1) := by decide +kernel
theorem dX12_choose_141 : decode cX12_choose 141 = .ok (.ifCond .ne 7, 3) := by decide +kernel
theorem dX12_choose_144 : decode cX12_choose 144 = .ok (.iload_n 3, 1) := by decide +kernel
theorem dX12_choose_145 : decode cX12_choose 145 = .ok (.goto 18, 3) := by decide +kernel
theorem dX12_choose_148 : decode cX12_choose 148 = .ok (.iload_n 2, 1) := by decide +kernel
theorem dX12_choose_149 : decode cX12_choose 149 = .ok (.iconst 1, 1) := by decide +kernel
theorem dX12_choose_150 : decode cX12_choose 150 = .ok (.if_icmp .ne 8, 3) := by decide +kernel
theorem dX12_choose_153 : decode cX12_choose 153 = .ok (.iload 4, 2) := by decide +kernel
theorem dX12_choose_155 : decode cX12_choose 155 = .ok (.goto 8, 3) := by decide +kernel
theorem dX12_choose_158 : decode cX12_choose 158 = .ok (.aload_n 0, 1) := by decide +kernel
theorem dX12_choose_159 : decode cX12_choose 159 = .ok (.iload_n 3, 1) := by decide +kernel
theorem dX12_choose_160 : decode cX12_choose 160 = .ok (.invokevirtual 296, 3) := by decide +kernel
theorem dX12_choose_163 : decode cX12_choose 163 = .ok (.ireturn, 1) := by decide +kernel
theorem dX12_steps_0 : decode cX12_steps 0 = .ok (.iload_n 1, 1) := by decide +kernel
theorem dX12_steps_1 : decode cX12_steps 1 = .ok (.iconst 0, 1) := by decide +kernel
theorem dX12_steps_2 : decode cX12_steps 2 = .ok (.sipush 9999, 3) := by decide +kernel
theorem dX12_steps_5 : decode cX12_steps 5 = .ok (.invokestatic 82, 3) := by decide +kernel
theorem dX12_steps_8 : decode cX12_steps 8 = .ok (.ifCond .eq 23, 3) := by decide +kernel
theorem dX12_steps_11 : decode cX12_steps 11 = .ok (.iload_n 2, 1) := by decide +kernel
theorem dX12_steps_12 : decode cX12_steps 12 = .ok (.iconst 0, 1) := by decide +kernel
theorem dX12_steps_13 : decode cX12_steps 13 = .ok (.iconst 2, 1) := by decide +kernel
theorem dX12_steps_14 : decode cX12_steps 14 = .ok (.invokestatic 82, 3) := by decide +kernel
theorem dX12_steps_17 : decode cX12_steps 17 = .ok (.ifCond .ne 17, 3) := by decide +kernel
theorem dX12_steps_20 : decode cX12_steps 20 = .ok (.iload_n 2, 1) := by decide +kernel
theorem dX12_steps_21 : decode cX12_steps 21 = .ok (.bipush 10, 2) := by decide +kernel
theorem dX12_steps_23 : decode cX12_steps 23 = .ok (.bipush 17, 2) := by decide +kernel
theorem dX12_steps_25 : decode cX12_steps 25 = .ok (.invokestatic 82, 3) := by decide +kernel
theorem dX12_steps_28 : decode cX12_steps 28 = .ok (.ifCond .ne 6, 3) := by decide +kernel
theorem dX12_steps_31 : decode cX12_steps 31 = .ok (.bipush (-102), 2) := by decide +kernel
theorem dX12_steps_33 : decode cX12_steps 33 = .ok (.ireturn, 1) := by decide +kernel
theorem dX12_steps_34 : decode cX12_steps 34 = .ok (.aload_n 0, 1) := by decide +kernel
theorem dX12_steps_35 : decode cX12_steps 35 = .ok (.getfield 299, 3) := by decide +kernel
theorem dX12_steps_38 : decode cX12_steps 38 = .ok (.bipush 20, 2) := by decide +kernel
theorem dX12_steps_40 : decode cX12_steps 40 = .ok (.if_icmp .ne 6, 3) := by decide +kernel
theorem dX12_steps_43 : decode cX12_steps 43 = .ok (.bipush (-103), 2) := by decide +kernel
theorem dX12_steps_45 : decode cX12_steps 45 = .ok (.ireturn, 1) := by decide +kernel
theorem dX12_steps_46 : decode cX12_steps 46 = .ok (.aload_n 0, 1) := by decide +kernel
theorem dX12_steps_47 : decode cX12_steps 47 = .ok (.dup, 1) := by decide +kernel
theorem dX12_steps_48 : decode cX12_steps 48 = .ok (.getfield 299, 3) := by decide +kernel
theorem dX12_steps_51 : decode cX12_steps 51 = .ok (.iconst 1, 1) := by decide +kernel
theorem dX12_steps_52 : decode cX12_steps 52 = .ok (.iadd, 1) := by decide +kernel
theorem dX12_steps_53 : decode cX12_steps 53 = .ok (.putfield 299, 3) := by decide +kernel
theorem dX12_steps_56 : decode cX12_steps 56 = .ok (.aload_n 0, 1) := by decide +kernel
theorem dX12_steps_57 : decode cX12_steps 57 = .ok (.invokevirtual 284, 3) := by decide +kernel
theorem dX12_steps_60 : decode cX12_steps 60 = .ok (.iconst 0, 1) := by decide +kernel
theorem dX12_steps_61 : decode cX12_steps 61 = .ok (.istore_n 3, 1) := by decide +kernel
theorem dX12_steps_62 : decode cX12_steps 62 = .ok (.aload_n 0, 1) := by decide +kernel
theorem dX12_steps_63 : decode cX12_steps 63 = .ok (.iconst 0, 1) := by decide +kernel
theorem dX12_steps_64 : decode cX12_steps 64 = .ok (.invokevirtual 287, 3) := by decide +kernel
theorem dX12_steps_67 : decode cX12_steps 67 = .ok (.istore 4, 2) := by decide +kernel
theorem dX12_steps_69 : decode cX12_steps 69 = .ok (.iconst 0, 1) := by decide +kernel
theorem dX12_steps_70 : decode cX12_steps 70 = .ok (.istore 5, 2) := by decide +kernel
theorem dX12_steps_72 : decode cX12_steps 72 = .ok (.iconst 1, 1) := by decide +kernel
theorem dX12_steps_73 : decode cX12_steps 73 = .ok (.istore 6, 2) := by decide +kernel
theorem dX12_steps_75 : decode cX12_steps 75 = .ok (.iload 6, 2) := by decide +kernel
theorem dX12_steps_77 : decode cX12_steps 77 = .ok (.ifCond .eq 129, 3) := by decide +kernel
theorem dX12_steps_80 : decode cX12_steps 80 = .ok (.iconst (-1), 1) := by decide +kernel
theorem dX12_steps_81 : decode cX12_steps 81 = .ok (.istore 7, 2) := by decide +kernel
theorem dX12_steps_83 : decode cX12_steps 83 = .ok (.iload 4, 2) := by decide +kernel
theorem dX12_steps_85 : decode cX12_steps 85 = .ok (.istore 8, 2) := by decide +kernel
theorem dX12_steps_87 : decode cX12_steps 87 = .ok (.iconst 0, 1) := by decide +kernel
theorem dX12_steps_88 : decode cX12_steps 88 = .ok (.istore 9, 2) := by decide +kernel
theorem dX12_steps_90 : decode cX12_steps 90 = .ok (.iload 9, 2) := by decide +kernel
theorem dX12_steps_92 : decode cX12_steps 92 = .ok (.aload_n 0, 1) := by decide +kernel
theorem dX12_steps_93 : decode cX12_steps 93 = .ok (.getfield 94, 3) := by decide +kernel
theorem dX12_steps_96 : decode cX12_steps 96 = .ok (.if_icmp .ge 66, 3) := by decide +kernel
theorem dX12_steps_99 : decode cX12_steps 99 = .ok (.iload_n 3, 1) := by decide +kernel
theorem dX12_steps_100 : decode cX12_steps 100 = .ok (.iconst 1, 1) := by decide +kernel
theorem dX12_steps_101 : decode cX12_steps 101 = .ok (.iload 9, 2) := by decide +kernel
theorem dX12_steps_103 : decode cX12_steps 103 = .ok (.ishl, 1) := by decide +kernel
theorem dX12_steps_104 : decode cX12_steps 104 = .ok (.ior, 1) := by decide +kernel
theorem dX12_steps_105 : decode cX12_steps 105 = .ok (.istore 10, 2) := by decide +kernel
theorem dX12_steps_107 : decode cX12_steps 107 = .ok (.aload_n 0, 1) := by decide +kernel
theorem dX12_steps_108 : decode cX12_steps 108 = .ok (.getfield 24, 3) := by decide +kernel
theorem dX12_steps_111 : decode cX12_steps 111 = .ok (.iload 9, 2) := by decide +kernel
theorem dX12_steps_113 : decode cX12_steps 113 = .ok (.baload, 1) := by decide +kernel
theorem dX12_steps_114 : decode cX12_steps 114 = .ok (.ifCond .ne 42, 3) := by decide +kernel
theorem dX12_steps_117 : decode cX12_steps 117 = .ok (.iload 10, 2) := by decide +kernel
theorem dX12_steps_119 : decode cX12_steps 119 = .ok (.iload_n 3, 1) := by decide +kernel
theorem dX12_steps_120 : decode cX12_steps 120 = .ok (.if_icmp .eq 36, 3) := by decide +kernel
theorem dX12_steps_123 : decode cX12_steps 123 = .ok (.aload_n 0, 1) := by decide +kernel
theorem dX12_steps_124 : decode cX12_steps 124 = .ok (.iload 10, 2) := by decide +kernel
theorem dX12_steps_126 : decode cX12_steps 126 = .ok (.invokevirtual 296, 3) := by decide +kernel
theorem dX12_steps_129 : decode cX12_steps 129 = .ok (.iload_n 1, 1) := by decide +kernel
theorem dX12_steps_130 : decode cX12_steps 130 = .ok (.if_icmp .gt 26, 3) := by decide +kernel
theorem dX12_steps_133 : decode cX12_steps 133 = .ok (.aload_n 0, 1) := by decide +kernel
theorem dX12_steps_134 : decode cX12_steps 134 = .ok (.iload 10, 2) := by decide +kernel
theorem dX12_steps_136 : decode cX12_steps 136 = .ok (.invokevirtual 287, 3) := by decide +kernel
theorem dX12_steps_139 : decode cX12_steps 139 = .ok (.iload 8, 2) := by decide +kernel
theorem dX12_steps_141 : decode cX12_steps 141 = .ok (.if_icmp .ge 15, 3) := by decide +kernel
theorem dX12_steps_144 : decode cX12_steps 144 = .ok (.aload_n 0, 1) := by decide +kernel
theorem dX12_steps_145 : decode cX12_steps 145 = .ok (.iload 10, 2) := by decide +kernel
theorem dX12_steps_147 : decode cX12_steps 147 = .ok (.invokevirtual 287, 3) := by decide +kernel
theorem dX12_steps_150 : decode cX12_steps 150 = .ok (.istore 8, 2) := by decide +kernel
theorem dX12_steps_152 : decode cX12_steps 152 = .ok (.iload 9, 2) := by decide +kernel
theorem dX12_steps_154 : decode cX12_steps 154 = .ok (.istore 7, 2) := by decide +kernel
theorem dX12_steps_156 : decode cX12_steps 156 = .ok (.iinc 9 1, 3) := by decide +kernel
theorem dX12_steps_159 : decode cX12_steps 159 = .ok (.goto (-69), 3) := by decide +kernel
theorem dX12_steps_162 : decode cX12_steps 162 = .ok (.iload 7, 2) := by decide +kernel
theorem dX12_steps_164 : decode cX12_steps 164 = .ok (.iconst (-1), 1) := by decide +kernel
theorem dX12_steps_165 : decode cX12_steps 165 = .ok (.if_icmp .eq 7, 3) := by decide +kernel
theorem dX12_steps_168 : decode cX12_steps 168 = .ok (.iconst 1, 1) := by decide +kernel
theorem dX12_steps_169 : decode cX12_steps 169 = .ok (.goto 4, 3) := by decide +kernel
theorem dX12_steps_172 : decode cX12_steps 172 = .ok (.iconst 0, 1) := by decide +kernel
theorem dX12_steps_173 : decode cX12_steps 173 = .ok (.istore 6, 2) := by decide +kernel
theorem dX12_steps_175 : decode cX12_steps 175 = .ok (.iload 6, 2) := by decide +kernel
theorem dX12_steps_177 : decode cX12_steps 177 = .ok (.ifCond .eq 26, 3) := by decide +kernel
theorem dX12_steps_180 : decode cX12_steps 180 = .ok (.iload_n 3, 1) := by decide +kernel
theorem dX12_steps_181 : decode cX12_steps 181 = .ok (.iconst 1, 1) := by decide +kernel
theorem dX12_steps_182 : decode cX12_steps 182 = .ok (.iload 7, 2) := by decide +kernel
theorem dX12_steps_184 : decode cX12_steps 184 = .ok (.ishl, 1) := by decide +kernel
theorem dX12_steps_185 : decode cX12_steps 185 = .ok (.ior, 1) := by decide +kernel
theorem dX12_steps_186 : decode cX12_steps 186 = .ok (.istore_n 3, 1) := by decide +kernel
theorem dX12_steps_187 : decode cX12_steps 187 = .ok (.iload 8, 2) := by decide +kernel
theorem dX12_steps_189 : decode cX12_steps 189 = .ok (.istore 4, 2) := by decide +kernel
theorem dX12_steps_191 : decode cX12_steps 191 = .ok (.aload_n 0, 1) := by decide +kernel
theorem dX12_steps_192 : decode cX12_steps 192 = .ok (.getfield 76, 3) := by decide +kernel
theorem dX12_steps_195 : decode cX12_steps 195 = .ok (.iload 5, 2) := by decide +kernel
theorem dX12_steps_197 : decode cX12_steps 197 = .ok (.iload 7, 2) := by decide +kernel
theorem dX12_steps_199 : decode cX12_steps 199 = .ok (.iastore, 1) := by decide +kernel
theorem dX12_steps_200 : decode cX12_steps 200 = .ok (.iinc 5 1, 3) := by decide +kernel
theorem dX12_steps_203 : decode cX12_steps 203 = .ok (.goto (-128), 3) := by decide +kernel
theorem dX12_steps_206 : decode cX12_steps 206 = .ok (.iload_n 2, 1) := by decide +kernel
theorem dX12_steps_207 : decode cX12_steps 207 = .ok (.ifCond .ne 7, 3) := by decide +kernel
theorem dX12_steps_210 : decode cX12_steps 210 = .ok (.iload_n 3, 1) := by decide +kernel
theorem dX12_steps_211 : decode cX12_steps 211 = .ok (.goto 45, 3) := by decide +kernel
theorem dX12_steps_214 : decode cX12_steps 214 = .ok (.iload_n 2, 1) := by decide +kernel
theorem dX12_steps_215 : decode cX12_steps 215 = .ok (.iconst 1, 1) := by decide +kernel
theorem dX12_steps_216 : decode cX12_steps 216 = .ok (.if_icmp .ne 8, 3) := by decide +kernel
theorem dX12_steps_219 : decode cX12_steps 219 = .ok (.iload 4, 2) := by decide +kernel
theorem dX12_steps_221 : decode cX12_steps 221 = .ok (.goto 35, 3) := by decide +kernel
theorem dX12_steps_224 : decode cX12_steps 224 = .ok (.iload_n 2, 1) := by decide +kernel
theorem dX12_steps_225 : decode cX12_steps 225 = .ok (.iconst 2, 1) := by decide +kernel
theorem dX12_steps_226 : decode cX12_steps 226 = .ok (.if_icmp .ne 8, 3) := by decide +kernel
theorem dX12_steps_229 : decode cX12_steps 229 = .ok (.iload 5, 2) := by decide +kernel
theorem dX12_steps_231 : decode cX12_steps 231 = .ok (.goto 25, 3) := by decide +kernel
theorem dX12_steps_234 : decode cX12_steps 234 = .ok (.iload_n 2, 1) := by decide +kernel
theorem dX12_steps_235 : decode cX12_steps 235 = .ok (.bipush 10, 2) := by decide +kernel
theorem dX12_steps_237 : decode cX12_steps 237 = .ok (.isub, 1) := by decide +kernel
theorem dX12_steps_238 : decode cX12_steps 238 = .ok (.iload 5, 2) := by decide +kernel
theorem dX12_steps_240 : decode cX12_steps 240 = .ok (.if_icmp .ge 15, 3) := by decide +kernel
theorem dX12_steps_243 : decode cX12_steps 243 = .ok (.aload_n 0, 1) := by decide +kernel
theorem dX12_steps_244 : decode cX12_steps 244 = .ok (.getfield 76, 3) := by decide +kernel
theorem dX12_steps_247 : decode cX12_steps 247 = .ok (.iload_n 2, 1) := by decide +kernel
theorem dX12_steps_248 : decode cX12_steps 248 = .ok (.bipush 10, 2) := by decide +kernel
theorem dX12_steps_250 : decode cX12_steps 250 = .ok (.isub, 1) := by decide +kernel
theorem dX12_steps_251 : decode cX12_steps 251 = .ok (.iaload, 1) := by decide +kernel
theorem dX12_steps_252 : decode cX12_steps 252 = .ok (.goto 4, 3) := by decide +kernel
theorem dX12_steps_255 : decode cX12_steps 255 = .ok (.iconst (-1), 1) := by decide +kernel
theorem dX12_steps_256 : decode cX12_steps 256 = .ok (.ireturn, 1) := by decide +kernel
theorem dX12_worth_0 : decode cX12_worth 0 = .ok (.aload_n 0, 1) := by decide +kernel
theorem dX12_worth_1 : decode cX12_worth 1 = .ok (.iload_n 2, 1) := by decide +kernel
theorem dX12_worth_2 : decode cX12_worth 2 = .ok (.invokevirtual 118, 3) := by decide +kernel
theorem dX12_worth_5 : decode cX12_worth 5 = .ok (.ifCond .ne 6, 3) := by decide +kernel
theorem dX12_worth_8 : decode cX12_worth 8 = .ok (.bipush (-101), 2) := by decide +kernel
theorem dX12_worth_10 : decode cX12_worth 10 = .ok (.ireturn, 1) := by decide +kernel
theorem dX12_worth_11 : decode cX12_worth 11 = .ok (.iload_n 1, 1) := by decide +kernel
theorem dX12_worth_12 : decode cX12_worth 12 = .ok (.iconst 0, 1) := by decide +kernel
theorem dX12_worth_13 : decode cX12_worth 13 = .ok (.sipush 255, 3) := by decide +kernel
theorem dX12_worth_16 : decode cX12_worth 16 = .ok (.invokestatic 82, 3) := by decide +kernel
theorem dX12_worth_19 : decode cX12_worth 19 = .ok (.ifCond .ne 6, 3) := by decide +kernel
theorem dX12_worth_22 : decode cX12_worth 22 = .ok (.bipush (-102), 2) := by decide +kernel
theorem dX12_worth_24 : decode cX12_worth 24 = .ok (.ireturn, 1) := by decide +kernel
theorem dX12_worth_25 : decode cX12_worth 25 = .ok (.iload_n 1, 1) := by decide +kernel
theorem dX12_worth_26 : decode cX12_worth 26 = .ok (.iload_n 2, 1) := by decide +kernel
theorem dX12_worth_27 : decode cX12_worth 27 = .ok (.ishr, 1) := by decide +kernel
theorem dX12_worth_28 : decode cX12_worth 28 = .ok (.iconst 1, 1) := by decide +kernel
theorem dX12_worth_29 : decode cX12_worth 29 = .ok (.iand, 1) := by decide +kernel
theorem dX12_worth_30 : decode cX12_worth 30 = .ok (.ifCond .ne 6, 3) := by decide +kernel
theorem dX12_worth_33 : decode cX12_worth 33 = .ok (.bipush (-101), 2) := by decide +kernel
theorem dX12_worth_35 : decode cX12_worth 35 = .ok (.ireturn, 1) := by decide +kernel
theorem dX12_worth_36 : decode cX12_worth 36 = .ok (.aload_n 0, 1) := by decide +kernel
theorem dX12_worth_37 : decode cX12_worth 37 = .ok (.invokevirtual 284, 3) := by decide +kernel
theorem dX12_worth_40 : decode cX12_worth 40 = .ok (.aload_n 0, 1) := by decide +kernel
theorem dX12_worth_41 : decode cX12_worth 41 = .ok (.iload_n 1, 1) := by decide +kernel
theorem dX12_worth_42 : decode cX12_worth 42 = .ok (.invokevirtual 287, 3) := by decide +kernel
theorem dX12_worth_45 : decode cX12_worth 45 = .ok (.istore_n 3, 1) := by decide +kernel
theorem dX12_worth_46 : decode cX12_worth 46 = .ok (.aload_n 0, 1) := by decide +kernel
theorem dX12_worth_47 : decode cX12_worth 47 = .ok (.iload_n 1, 1) := by decide +kernel
theorem dX12_worth_48 : decode cX12_worth 48 = .ok (.iconst 1, 1) := by decide +kernel
theorem dX12_worth_49 : decode cX12_worth 49 = .ok (.iload_n 2, 1) := by decide +kernel
theorem dX12_worth_50 : decode cX12_worth 50 = .ok (.ishl, 1) := by decide +kernel
theorem dX12_worth_51 : decode cX12_worth 51 = .ok (.iconst (-1), 1) := by decide +kernel
theorem dX12_worth_52 : decode cX12_worth 52 = .ok (.ixor, 1) := by decide +kernel
theorem dX12_worth_53 : decode cX12_worth 53 = .ok (.iand, 1) := by decide +kernel
theorem dX12_worth_54 : decode cX12_worth 54 = .ok (.invokevirtual 287, 3) := by decide +kernel
theorem dX12_worth_57 : decode cX12_worth 57 = .ok (.iload_n 3, 1) := by decide +kernel
theorem dX12_worth_58 : decode cX12_worth 58 = .ok (.isub, 1) := by decide +kernel
theorem dX12_worth_59 : decode cX12_worth 59 = .ok (.ireturn, 1) := by decide +kernel
theorem dX12_picture_0 : decode cX12_picture 0 = .ok (.iload_n 1, 1) := by decide +kernel
theorem dX12_picture_1 : decode cX12_picture 1 = .ok (.iconst 0, 1) := by decide +kernel
theorem dX12_picture_2 : decode cX12_picture 2 = .ok (.iconst 3, 1) := by decide +kernel
theorem dX12_picture_3 : decode cX12_picture 3 = .ok (.invokestatic 82, 3) := by decide +kernel
theorem dX12_picture_6 : decode cX12_picture 6 = .ok (.ifCond .ne 6, 3) := by decide +kernel
theorem dX12_picture_9 : decode cX12_picture 9 = .ok (.bipush (-101), 2) := by decide +kernel
theorem dX12_picture_11 : decode cX12_picture 11 = .ok (.ireturn, 1) := by decide +kernel
theorem dX12_picture_12 : decode cX12_picture 12 = .ok (.iconst 0, 1) := by decide +kernel
theorem dX12_picture_13 : decode cX12_picture 13 = .ok (.istore_n 2, 1) := by decide +kernel
theorem dX12_picture_14 : decode cX12_picture 14 = .ok (.iconst 0, 1) := by decide +kernel
theorem dX12_picture_15 : decode cX12_picture 15 = .ok (.istore_n 3, 1) := by decide +kernel
theorem dX12_picture_16 : decode cX12_picture 16 = .ok (.iload_n 3, 1) := by decide +kernel
theorem dX12_picture_17 : decode cX12_picture 17 = .ok (.bipush 64, 2) := by decide +kernel
theorem dX12_picture_19 : decode cX12_picture 19 = .ok (.if_icmp .ge 90, 3) := by decide +kernel
theorem dX12_picture_22 : decode cX12_picture 22 = .ok (.aload_n 0, 1) := by decide +kernel
theorem dX12_picture_23 : decode cX12_picture 23 = .ok (.getfield 7, 3) := by decide +kernel
theorem dX12_picture_26 : decode cX12_picture 26 = .ok (.iload_n 3, 1) := by decide +kernel
theorem dX12_picture_27 : decode cX12_picture 27 = .ok (.baload, 1) := by decide +kernel
theorem dX12_picture_28 : decode cX12_picture 28 = .ok (.ifCond .eq 75, 3) := by decide +kernel
theorem dX12_picture_31 : decode cX12_picture 31 = .ok (.iload_n 2, 1) := by decide +kernel
theorem dX12_picture_32 : decode cX12_picture 32 = .ok (.istore 4, 2) := by decide +kernel
theorem dX12_picture_34 : decode cX12_picture 34 = .ok (.iload 4, 2) := by decide +kernel
theorem dX12_picture_36 : decode cX12_picture 36 = .ok (.ifCond .le 47, 3) := by decide +kernel
theorem dX12_picture_39 : decode cX12_picture 39 = .ok (.aload_n 0, 1) := by decide +kernel
theorem dX12_picture_40 : decode cX12_picture 40 = .ok (.getfield 79, 3) := by decide +kernel
theorem dX12_picture_43 : decode cX12_picture 43 = .ok (.iload 4, 2) := by decide +kernel
theorem dX12_picture_45 : decode cX12_picture 45 = .ok (.iconst 1, 1) := by decide +kernel
theorem dX12_picture_46 : decode cX12_picture 46 = .ok (.isub, 1) := by decide +kernel
theorem dX12_picture_47 : decode cX12_picture 47 = .ok (.iaload, 1) := by decide +kernel
theorem dX12_picture_48 : decode cX12_picture 48 = .ok (.aload_n 0, 1) := by decide +kernel
theorem dX12_picture_49 : decode cX12_picture 49 = .ok (.getfield 13, 3) := by decide +kernel
theorem dX12_picture_52 : decode cX12_picture 52 = .ok (.iconst 4, 1) := by decide +kernel
theorem dX12_picture_53 : decode cX12_picture 53 = .ok (.iload_n 3, 1) := by decide +kernel
theorem dX12_picture_54 : decode cX12_picture 54 = .ok (.imul, 1) := by decide +kernel
theorem dX12_picture_55 : decode cX12_picture 55 = .ok (.iload_n 1, 1) := by decide +kernel
theorem dX12_picture_56 : decode cX12_picture 56 = .ok (.iadd, 1) := by decide +kernel
theorem dX12_picture_57 : decode cX12_picture 57 = .ok (.iaload, 1) := by decide +kernel
theorem dX12_picture_58 : decode cX12_picture 58 = .ok (.if_icmp .le 25, 3) := by decide +kernel
theorem dX12_picture_61 : decode cX12_picture 61 = .ok (.aload_n 0, 1) := by decide +kernel
theorem dX12_picture_62 : decode cX12_picture 62 = .ok (.getfield 79, 3) := by decide +kernel
theorem dX12_picture_65 : decode cX12_picture 65 = .ok (.iload 4, 2) := by decide +kernel
theorem dX12_picture_67 : decode cX12_picture 67 = .ok (.aload_n 0, 1) := by decide +kernel
theorem dX12_picture_68 : decode cX12_picture 68 = .ok (.getfield 79, 3) := by decide +kernel
theorem dX12_picture_71 : decode cX12_picture 71 = .ok (.iload 4, 2) := by decide +kernel
theorem dX12_picture_73 : decode cX12_picture 73 = .ok (.iconst 1, 1) := by decide +kernel
theorem dX12_picture_74 : decode cX12_picture 74 = .ok (.isub, 1) := by decide +kernel
theorem dX12_picture_75 : decode cX12_picture 75 = .ok (.iaload, 1) := by decide +kernel
theorem dX12_picture_76 : decode cX12_picture 76 = .ok (.iastore, 1) := by decide +kernel
theorem dX12_picture_77 : decode cX12_picture 77 = .ok (.iinc 4 (-1), 3) := by decide +kernel
theorem dX12_picture_80 : decode cX12_picture 80 = .ok (.goto (-46), 3) := by decide +kernel
theorem dX12_picture_83 : decode cX12_picture 83 = .ok (.aload_n 0, 1) := by decide +kernel
theorem dX12_picture_84 : decode cX12_picture 84 = .ok (.getfield 79, 3) := by decide +kernel
theorem dX12_picture_87 : decode cX12_picture 87 = .ok (.iload 4, 2) := by decide +kernel
theorem dX12_picture_89 : decode cX12_picture 89 = .ok (.aload_n 0, 1) := by decide +kernel
theorem dX12_picture_90 : decode cX12_picture 90 = .ok (.getfield 13, 3) := by decide +kernel
theorem dX12_picture_93 : decode cX12_picture 93 = .ok (.iconst 4, 1) := by decide +kernel
theorem dX12_picture_94 : decode cX12_picture 94 = .ok (.iload_n 3, 1) := by decide +kernel
theorem dX12_picture_95 : decode cX12_picture 95 = .ok (.imul, 1) := by decide +kernel
theorem dX12_picture_96 : decode cX12_picture 96 = .ok (.iload_n 1, 1) := by decide +kernel
theorem dX12_picture_97 : decode cX12_picture 97 = .ok (.iadd, 1) := by decide +kernel
theorem dX12_picture_98 : decode cX12_picture 98 = .ok (.iaload, 1) := by decide +kernel
theorem dX12_picture_99 : decode cX12_picture 99 = .ok (.iastore, 1) := by decide +kernel
theorem dX12_picture_100 : decode cX12_picture 100 = .ok (.iinc 2 1, 3) := by decide +kernel
theorem dX12_picture_103 : decode cX12_picture 103 = .ok (.iinc 3 1, 3) := by decide +kernel
theorem dX12_picture_106 : decode cX12_picture 106 = .ok (.goto (-90), 3) := by decide +kernel
theorem dX12_picture_109 : decode cX12_picture 109 = .ok (.iconst 0, 1) := by decide +kernel
theorem dX12_picture_110 : decode cX12_picture 110 = .ok (.istore_n 3, 1) := by decide +kernel
theorem dX12_picture_111 : decode cX12_picture 111 = .ok (.iconst 0, 1) := by decide +kernel
theorem dX12_picture_112 : decode cX12_picture 112 = .ok (.istore 4, 2) := by decide +kernel
theorem dX12_picture_114 : decode cX12_picture 114 = .ok (.iload 4, 2) := by decide +kernel
theorem dX12_picture_116 : decode cX12_picture 116 = .ok (.iconst 4, 1) := by decide +kernel
theorem dX12_picture_117 : decode cX12_picture 117 = .ok (.if_icmp .ge 121, 3) := by decide +kernel
theorem dX12_picture_120 : decode cX12_picture 120 = .ok (.iload 4, 2) := by decide +kernel
theorem dX12_picture_122 : decode cX12_picture 122 = .ok (.iload_n 2, 1) := by decide +kernel
theorem dX12_picture_123 : decode cX12_picture 123 = .ok (.imul, 1) := by decide +kernel
theorem dX12_picture_124 : decode cX12_picture 124 = .ok (.iconst 4, 1) := by decide +kernel
theorem dX12_picture_125 : decode cX12_picture 125 = .ok (.idiv, 1) := by decide +kernel
theorem dX12_picture_126 : decode cX12_picture 126 = .ok (.istore 5, 2) := by decide +kernel
theorem dX12_picture_128 : decode cX12_picture 128 = .ok (.iload 4, 2) := by decide +kernel
theorem dX12_picture_130 : decode cX12_picture 130 = .ok (.iconst 1, 1) := by decide +kernel
theorem dX12_picture_131 : decode cX12_picture 131 = .ok (.iadd, 1) := by decide +kernel
theorem dX12_picture_132 : decode cX12_picture 132 = .ok (.iload_n 2, 1) := by decide +kernel
theorem dX12_picture_133 : decode cX12_picture 133 = .ok (.imul, 1) := by decide +kernel
theorem dX12_picture_134 : decode cX12_picture 134 = .ok (.iconst 4, 1) := by decide +kernel
theorem dX12_picture_135 : decode cX12_picture 135 = .ok (.idiv, 1) := by decide +kernel
theorem dX12_picture_136 : decode cX12_picture 136 = .ok (.istore 6, 2) := by decide +kernel
theorem dX12_picture_138 : decode cX12_picture 138 = .ok (.bipush 12, 2) := by decide +kernel
theorem dX12_picture_140 : decode cX12_picture 140 = .ok (.iload_n 1, 1) := by decide +kernel
theorem dX12_picture_141 : decode cX12_picture 141 = .ok (.imul, 1) := by decide +kernel
theorem dX12_picture_142 : decode cX12_picture 142 = .ok (.iconst 3, 1) := by decide +kernel
theorem dX12_picture_143 : decode cX12_picture 143 = .ok (.iload 4, 2) := by decide +kernel
theorem dX12_picture_145 : decode cX12_picture 145 = .ok (.imul, 1) := by decide +kernel
theorem dX12_picture_146 : decode cX12_picture 146 = .ok (.iadd, 1) := by decide +kernel
theorem dX12_picture_147 : decode cX12_picture 147 = .ok (.istore 7, 2) := by decide +kernel
theorem dX12_picture_149 : decode cX12_picture 149 = .ok (.aload_n 0, 1) := by decide +kernel
theorem dX12_picture_150 : decode cX12_picture 150 = .ok (.getfield 61, 3) := by decide +kernel
theorem dX12_picture_153 : decode cX12_picture 153 = .ok (.iload 7, 2) := by decide +kernel
theorem dX12_picture_155 : decode cX12_picture 155 = .ok (.iload 6, 2) := by decide +kernel
theorem dX12_picture_157 : decode cX12_picture 157 = .ok (.iload 5, 2) := by decide +kernel
theorem dX12_picture_159 : decode cX12_picture 159 = .ok (.isub, 1) := by decide +kernel
theorem dX12_picture_160 : decode cX12_picture 160 = .ok (.iastore, 1) := by decide +kernel
theorem dX12_picture_161 : decode cX12_picture 161 = .ok (.aload_n 0, 1) := by decide +kernel
theorem dX12_picture_162 : decode cX12_picture 162 = .ok (.getfield 61, 3) := by decide +kernel
theorem dX12_picture_165 : decode cX12_picture 165 = .ok (.iload 7, 2) := by decide +kernel
theorem dX12_picture_167 : decode cX12_picture 167 = .ok (.iconst 1, 1) := by decide +kernel
theorem dX12_picture_168 : decode cX12_picture 168 = .ok (.iadd, 1) := by decide +kernel
theorem dX12_picture_169 : decode cX12_picture 169 = .ok (.iload 6, 2) := by decide +kernel
theorem dX12_picture_171 : decode cX12_picture 171 = .ok (.iload 5, 2) := by decide +kernel
theorem dX12_picture_173 : decode cX12_picture 173 = .ok (.if_icmp .le 13, 3) := by decide +kernel
theorem dX12_picture_176 : decode cX12_picture 176 = .ok (.aload_n 0, 1) := by decide +kernel
theorem dX12_picture_177 : decode cX12_picture 177 = .ok (.getfield 79, 3) := by decide +kernel
theorem dX12_picture_180 : decode cX12_picture 180 = .ok (.iload 5, 2) := by decide +kernel
theorem dX12_picture_182 : decode cX12_picture 182 = .ok (.iaload, 1) := by decide +kernel
theorem dX12_picture_183 : decode cX12_picture 183 = .ok (.goto 4, 3) := by decide +kernel
theorem dX12_picture_186 : decode cX12_picture 186 = .ok (.iconst (-1), 1) := by decide +kernel
theorem dX12_picture_187 : decode cX12_picture 187 = .ok (.iastore, 1) := by decide +kernel
theorem dX12_picture_188 : decode cX12_picture 188 = .ok (.aload_n 0, 1) := by decide +kernel
theorem dX12_picture_189 : decode cX12_picture 189 = .ok (.getfield 61, 3) := by decide +kernel
theorem dX12_picture_192 : decode cX12_picture 192 = .ok (.iload 7, 2) := by decide +kernel
theorem dX12_picture_194 : decode cX12_picture 194 = .ok (.iconst 2, 1) := by decide +kernel
theorem dX12_picture_195 : decode cX12_picture 195 = .ok (.iadd, 1) := by decide +kernel
theorem dX12_picture_196 : decode cX12_picture 196 = .ok (.iload 6, 2) := by decide +kernel
theorem dX12_picture_198 : decode cX12_picture 198 = .ok (.iload 5, 2) := by decide +kernel
theorem dX12_picture_200 : decode cX12_picture 200 = .ok (.if_icmp .le 15, 3) := by decide +kernel
theorem dX12_picture_203 : decode cX12_picture 203 = .ok (.aload_n 0, 1) := by decide +kernel
theorem dX12_picture_204 : decode cX12_picture 204 = .ok (.getfield 79, 3) := by decide +kernel
theorem dX12_picture_207 : decode cX12_picture 207 = .ok (.iload 6, 2) := by decide +kernel
theorem dX12_picture_209 : decode cX12_picture 209 = .ok (.iconst 1, 1) := by decide +kernel
theorem dX12_picture_210 : decode cX12_picture 210 = .ok (.isub, 1) := by decide +kernel
theorem dX12_picture_211 : decode cX12_picture 211 = .ok (.iaload, 1) := by decide +kernel
theorem dX12_picture_212 : decode cX12_picture 212 = .ok (.goto 4, 3) := by decide +kernel
theorem dX12_picture_215 : decode cX12_picture 215 = .ok (.iconst (-1), 1) := by decide +kernel
theorem dX12_picture_216 : decode cX12_picture 216 = .ok (.iastore, 1) := by decide +kernel
theorem dX12_picture_217 : decode cX12_picture 217 = .ok (.iload_n 3, 1) := by decide +kernel
theorem dX12_picture_218 : decode cX12_picture 218 = .ok (.iload 6, 2) := by decide +kernel
theorem dX12_picture_220 : decode cX12_picture 220 = .ok (.iload 5, 2) := by decide +kernel
theorem dX12_picture_222 : decode cX12_picture 222 = .ok (.if_icmp .le 7, 3) := by decide +kernel
theorem dX12_picture_225 : decode cX12_picture 225 = .ok (.iconst 1, 1) := by decide +kernel
theorem dX12_picture_226 : decode cX12_picture 226 = .ok (.goto 4, 3) := by decide +kernel
theorem dX12_picture_229 : decode cX12_picture 229 = .ok (.iconst 0, 1) := by decide +kernel
theorem dX12_picture_230 : decode cX12_picture 230 = .ok (.iadd, 1) := by decide +kernel
theorem dX12_picture_231 : decode cX12_picture 231 = .ok (.istore_n 3, 1) := by decide +kernel
theorem dX12_picture_232 : decode cX12_picture 232 = .ok (.iinc 4 1, 3) := by decide +kernel
theorem dX12_picture_235 : decode cX12_picture 235 = .ok (.goto (-121), 3) := by decide +kernel
theorem dX12_picture_238 : decode cX12_picture 238 = .ok (.aload_n 0, 1) := by decide +kernel
theorem dX12_picture_239 : decode cX12_picture 239 = .ok (.getfield 58, 3) := by decide +kernel
theorem dX12_picture_242 : decode cX12_picture 242 = .ok (.iload_n 1, 1) := by decide +kernel
theorem dX12_picture_243 : decode cX12_picture 243 = .ok (.iconst 1, 1) := by decide +kernel
theorem dX12_picture_244 : decode cX12_picture 244 = .ok (.bastore, 1) := by decide +kernel
theorem dX12_picture_245 : decode cX12_picture 245 = .ok (.aload_n 0, 1) := by decide +kernel
theorem dX12_picture_246 : decode cX12_picture 246 = .ok (.iload_n 2, 1) := by decide +kernel
theorem dX12_picture_247 : decode cX12_picture 247 = .ok (.putfield 302, 3) := by decide +kernel
theorem dX12_picture_250 : decode cX12_picture 250 = .ok (.iload_n 3, 1) := by decide +kernel
theorem dX12_picture_251 : decode cX12_picture 251 = .ok (.ireturn, 1) := by decide +kernel
theorem dX12_partOf_0 : decode cX12_partOf 0 = .ok (.aload_n 0, 1) := by decide +kernel
theorem dX12_partOf_1 : decode cX12_partOf 1 = .ok (.getfield 58, 3) := by decide +kernel
theorem dX12_partOf_4 : decode cX12_partOf 4 = .ok (.iload_n 1, 1) := by decide +kernel
theorem dX12_partOf_5 : decode cX12_partOf 5 = .ok (.baload, 1) := by decide +kernel
theorem dX12_partOf_6 : decode cX12_partOf 6 = .ok (.ifCond .eq 37, 3) := by decide +kernel
theorem dX12_partOf_9 : decode cX12_partOf 9 = .ok (.aload_n 0, 1) := by decide +kernel
theorem dX12_partOf_10 : decode cX12_partOf 10 = .ok (.getfield 61, 3) := by decide +kernel
theorem dX12_partOf_13 : decode cX12_partOf 13 = .ok (.bipush 12, 2) := by decide +kernel
theorem dX12_partOf_15 : decode cX12_partOf 15 = .ok (.iload_n 1, 1) := by decide +kernel
theorem dX12_partOf_16 : decode cX12_partOf 16 = .ok (.imul, 1) := by decide +kernel
theorem dX12_partOf_17 : decode cX12_partOf 17 = .ok (.iconst 3, 1) := by decide +kernel
theorem dX12_partOf_18 : decode cX12_partOf 18 = .ok (.iload_n 2, 1) := by decide +kernel
theorem dX12_partOf_19 : decode cX12_partOf 19 = .ok (.imul, 1) := by decide +kernel
theorem dX12_partOf_20 : decode cX12_partOf 20 = .ok (.iadd, 1) := by decide +kernel
theorem dX12_partOf_21 : decode cX12_partOf 21 = .ok (.iaload, 1) := by decide +kernel
theorem dX12_partOf_22 : decode cX12_partOf 22 = .ok (.ifCond .le 21, 3) := by decide +kernel
theorem dX12_partOf_25 : decode cX12_partOf 25 = .ok (.aload_n 0, 1) := by decide +kernel
theorem dX12_partOf_26 : decode cX12_partOf 26 = .ok (.getfield 61, 3) := by decide +kernel
theorem dX12_partOf_29 : decode cX12_partOf 29 = .ok (.bipush 12, 2) := by decide +kernel
theorem dX12_partOf_31 : decode cX12_partOf 31 = .ok (.iload_n 1, 1) := by decide +kernel
theorem dX12_partOf_32 : decode cX12_partOf 32 = .ok (.imul, 1) := by decide +kernel
theorem dX12_partOf_33 : decode cX12_partOf 33 = .ok (.iconst 3, 1) := by decide +kernel
theorem dX12_partOf_34 : decode cX12_partOf 34 = .ok (.iload_n 2, 1) := by decide +kernel
theorem dX12_partOf_35 : decode cX12_partOf 35 = .ok (.imul, 1) := by decide +kernel
theorem dX12_partOf_36 : decode cX12_partOf 36 = .ok (.iadd, 1) := by decide +kernel
theorem dX12_partOf_37 : decode cX12_partOf 37 = .ok (.iload_n 3, 1) := by decide +kernel
theorem dX12_partOf_38 : decode cX12_partOf 38 = .ok (.iadd, 1) := by decide +kernel
theorem dX12_partOf_39 : decode cX12_partOf 39 = .ok (.iaload, 1) := by decide +kernel
theorem dX12_partOf_40 : decode cX12_partOf 40 = .ok (.goto 4, 3) := by decide +kernel
theorem dX12_partOf_43 : decode cX12_partOf 43 = .ok (.iconst (-1), 1) := by decide +kernel
theorem dX12_partOf_44 : decode cX12_partOf 44 = .ok (.ireturn, 1) := by decide +kernel
theorem dX12_part_0 : decode cX12_part 0 = .ok (.iload_n 1, 1) := by decide +kernel
theorem dX12_part_1 : decode cX12_part 1 = .ok (.iconst 0, 1) := by decide +kernel
theorem dX12_part_2 : decode cX12_part 2 = .ok (.iconst 3, 1) := by decide +kernel
theorem dX12_part_3 : decode cX12_part 3 = .ok (.invokestatic 82, 3) := by decide +kernel
theorem dX12_part_6 : decode cX12_part 6 = .ok (.ifCond .ne 6, 3) := by decide +kernel
theorem dX12_part_9 : decode cX12_part 9 = .ok (.bipush (-101), 2) := by decide +kernel
theorem dX12_part_11 : decode cX12_part 11 = .ok (.ireturn, 1) := by decide +kernel
theorem dX12_part_12 : decode cX12_part 12 = .ok (.iload_n 2, 1) := by decide +kernel
theorem dX12_part_13 : decode cX12_part 13 = .ok (.iconst 0, 1) := by decide +kernel
theorem dX12_part_14 : decode cX12_part 14 = .ok (.iconst 3, 1) := by decide +kernel
theorem dX12_part_15 : decode cX12_part 15 = .ok (.invokestatic 82, 3) := by decide +kernel
theorem dX12_part_18 : decode cX12_part 18 = .ok (.ifCond .eq 22, 3) := by decide +kernel
theorem dX12_part_21 : decode cX12_part 21 = .ok (.iload_n 3, 1) := by decide +kernel
theorem dX12_part_22 : decode cX12_part 22 = .ok (.iconst 0, 1) := by decide +kernel
theorem dX12_part_23 : decode cX12_part 23 = .ok (.iconst 2, 1) := by decide +kernel
theorem dX12_part_24 : decode cX12_part 24 = .ok (.invokestatic 82, 3) := by decide +kernel
theorem dX12_part_27 : decode cX12_part 27 = .ok (.ifCond .eq 13, 3) := by decide +kernel
theorem dX12_part_30 : decode cX12_part 30 = .ok (.aload_n 0, 1) := by decide +kernel
theorem dX12_part_31 : decode cX12_part 31 = .ok (.iload_n 1, 1) := by decide +kernel
theorem dX12_part_32 : decode cX12_part 32 = .ok (.iload_n 2, 1) := by decide +kernel
theorem dX12_part_33 : decode cX12_part 33 = .ok (.iload_n 3, 1) := by decide +kernel
theorem dX12_part_34 : decode cX12_part 34 = .ok (.invokevirtual 305, 3) := by decide +kernel
theorem dX12_part_37 : decode cX12_part 37 = .ok (.goto 5, 3) := by decide +kernel
theorem dX12_part_40 : decode cX12_part 40 = .ok (.bipush (-102), 2) := by decide +kernel
theorem dX12_part_42 : decode cX12_part 42 = .ok (.ireturn, 1) := by decide +kernel
theorem dX12_foretoldOf_0 : decode cX12_foretoldOf 0 = .ok (.iconst 0, 1) := by decide +kernel
theorem dX12_foretoldOf_1 : decode cX12_foretoldOf 1 = .ok (.istore 5, 2) := by decide +kernel
theorem dX12_foretoldOf_3 : decode cX12_foretoldOf 3 = .ok (.iconst 0, 1) := by decide +kernel
theorem dX12_foretoldOf_4 : decode cX12_foretoldOf 4 = .ok (.istore 6, 2) := by decide +kernel
theorem dX12_foretoldOf_6 : decode cX12_foretoldOf 6 = .ok (.iload 6, 2) := by decide +kernel
theorem dX12_foretoldOf_8 : decode cX12_foretoldOf 8 = .ok (.iconst 4, 1) := by decide +kernel
theorem dX12_foretoldOf_9 : decode cX12_foretoldOf 9 = .ok (.if_icmp .ge 178, 3) := by decide +kernel
theorem dX12_foretoldOf_12 : decode cX12_foretoldOf 12 = .ok (.aload_n 0, 1) := by decide +kernel
theorem dX12_foretoldOf_13 : decode cX12_foretoldOf 13 = .ok (.getfield 61, 3) := by decide +kernel
theorem dX12_foretoldOf_16 : decode cX12_foretoldOf 16 = .ok (.bipush 12, 2) := by decide +kernel
theorem dX12_foretoldOf_18 : decode cX12_foretoldOf 18 = .ok (.iload_n 1, 1) := by decide +kernel
theorem dX12_foretoldOf_19 : decode cX12_foretoldOf 19 = .ok (.imul, 1) := by decide +kernel
theorem dX12_foretoldOf_20 : decode cX12_foretoldOf 20 = .ok (.iconst 3, 1) := by decide +kernel
theorem dX12_foretoldOf_21 : decode cX12_foretoldOf 21 = .ok (.iload 6, 2) := by decide +kernel
theorem dX12_foretoldOf_23 : decode cX12_foretoldOf 23 = .ok (.imul, 1) := by decide +kernel
theorem dX12_foretoldOf_24 : decode cX12_foretoldOf 24 = .ok (.iadd, 1) := by decide +kernel
theorem dX12_foretoldOf_25 : decode cX12_foretoldOf 25 = .ok (.iaload, 1) := by decide +kernel
theorem dX12_foretoldOf_26 : decode cX12_foretoldOf 26 = .ok (.istore 7, 2) := by decide +kernel
theorem dX12_foretoldOf_28 : decode cX12_foretoldOf 28 = .ok (.aload_n 0, 1) := by decide +kernel
theorem dX12_foretoldOf_29 : decode cX12_foretoldOf 29 = .ok (.getfield 61, 3) := by decide +kernel
theorem dX12_foretoldOf_32 : decode cX12_foretoldOf 32 = .ok (.bipush 12, 2) := by decide +kernel
theorem dX12_foretoldOf_34 : decode cX12_foretoldOf 34 = .ok (.iload_n 1, 1) := by decide +kernel
theorem dX12_foretoldOf_35 : decode cX12_foretoldOf 35 = .ok (.imul, 1) := by decide +kernel
theorem dX12_foretoldOf_36 : decode cX12_foretoldOf 36 = .ok (.iconst 3, 1) := by decide +kernel
theorem dX12_foretoldOf_37 : decode cX12_foretoldOf 37 = .ok (.iload 6, 2) := by decide +kernel
theorem dX12_foretoldOf_39 : decode cX12_foretoldOf 39 = .ok (.imul, 1) := by decide +kernel
theorem dX12_foretoldOf_40 : decode cX12_foretoldOf 40 = .ok (.iadd, 1) := by decide +kernel
theorem dX12_foretoldOf_41 : decode cX12_foretoldOf 41 = .ok (.iconst 1, 1) := by decide +kernel
theorem dX12_foretoldOf_42 : decode cX12_foretoldOf 42 = .ok (.iadd, 1) := by decide +kernel
theorem dX12_foretoldOf_43 : decode cX12_foretoldOf 43 = .ok (.iaload, 1) := by decide +kernel
theorem dX12_foretoldOf_44 : decode cX12_foretoldOf 44 = .ok (.istore 8, 2) := by decide +kernel
theorem dX12_foretoldOf_46 : decode cX12_foretoldOf 46 = .ok (.aload_n 0, 1) := by decide +kernel
theorem dX12_foretoldOf_47 : decode cX12_foretoldOf 47 = .ok (.getfield 61, 3) := by decide +kernel
theorem dX12_foretoldOf_50 : decode cX12_foretoldOf 50 = .ok (.bipush 12, 2) := by decide +kernel
theorem dX12_foretoldOf_52 : decode cX12_foretoldOf 52 = .ok (.iload_n 1, 1) := by decide +kernel
theorem dX12_foretoldOf_53 : decode cX12_foretoldOf 53 = .ok (.imul, 1) := by decide +kernel
theorem dX12_foretoldOf_54 : decode cX12_foretoldOf 54 = .ok (.iconst 3, 1) := by decide +kernel
theorem dX12_foretoldOf_55 : decode cX12_foretoldOf 55 = .ok (.iload 6, 2) := by decide +kernel
theorem dX12_foretoldOf_57 : decode cX12_foretoldOf 57 = .ok (.imul, 1) := by decide +kernel
theorem dX12_foretoldOf_58 : decode cX12_foretoldOf 58 = .ok (.iadd, 1) := by decide +kernel
theorem dX12_foretoldOf_59 : decode cX12_foretoldOf 59 = .ok (.iconst 2, 1) := by decide +kernel
theorem dX12_foretoldOf_60 : decode cX12_foretoldOf 60 = .ok (.iadd, 1) := by decide +kernel
theorem dX12_foretoldOf_61 : decode cX12_foretoldOf 61 = .ok (.iaload, 1) := by decide +kernel
theorem dX12_foretoldOf_62 : decode cX12_foretoldOf 62 = .ok (.istore 9, 2) := by decide +kernel
theorem dX12_foretoldOf_64 : decode cX12_foretoldOf 64 = .ok (.iload 7, 2) := by decide +kernel
theorem dX12_foretoldOf_66 : decode cX12_foretoldOf 66 = .ok (.ifCond .le 115, 3) := by decide +kernel
theorem dX12_foretoldOf_69 : decode cX12_foretoldOf 69 = .ok (.iload 8, 2) := by decide +kernel
theorem dX12_foretoldOf_71 : decode cX12_foretoldOf 71 = .ok (.iload_n 2, 1) := by decide +kernel
theorem dX12_foretoldOf_72 : decode cX12_foretoldOf 72 = .ok (.if_icmp .le 8, 3) := by decide +kernel
theorem dX12_foretoldOf_75 : decode cX12_foretoldOf 75 = .ok (.iload 8, 2) := by decide +kernel
theorem dX12_foretoldOf_77 : decode cX12_foretoldOf 77 = .ok (.goto 4, 3) := by decide +kernel
theorem dX12_foretoldOf_80 : decode cX12_foretoldOf 80 = .ok (.iload_n 2, 1) := by decide +kernel
theorem dX12_foretoldOf_81 : decode cX12_foretoldOf 81 = .ok (.istore 10, 2) := by decide +kernel
theorem dX12_foretoldOf_83 : decode cX12_foretoldOf 83 = .ok (.iload 9, 2) := by decide +kernel
theorem dX12_foretoldOf_85 : decode cX12_foretoldOf 85 = .ok (.iload_n 3, 1) := by decide +kernel
theorem dX12_foretoldOf_86 : decode cX12_foretoldOf 86 = .ok (.if_icmp .ge 8, 3) := by decide +kernel
theorem dX12_foretoldOf_89 : decode cX12_foretoldOf 89 = .ok (.iload 9, 2) := by decide +kernel
theorem dX12_foretoldOf_91 : decode cX12_foretoldOf 91 = .ok (.goto 4, 3) := by decide +kernel
theorem dX12_foretoldOf_94 : decode cX12_foretoldOf 94 = .ok (.iload_n 3, 1) := by decide +kernel
theorem dX12_foretoldOf_95 : decode cX12_foretoldOf 95 = .ok (.istore 11, 2) := by decide +kernel
theorem dX12_foretoldOf_97 : decode cX12_foretoldOf 97 = .ok (.iload 11, 2) := by decide +kernel
theorem dX12_foretoldOf_99 : decode cX12_foretoldOf 99 = .ok (.iload 10, 2) := by decide +kernel
theorem dX12_foretoldOf_101 : decode cX12_foretoldOf 101 = .ok (.if_icmp .ge 7, 3) := by decide +kernel
theorem dX12_foretoldOf_104 : decode cX12_foretoldOf 104 = .ok (.iconst 0, 1) := by decide +kernel
theorem dX12_foretoldOf_105 : decode cX12_foretoldOf 105 = .ok (.goto 10, 3) := by decide +kernel
theorem dX12_foretoldOf_108 : decode cX12_foretoldOf 108 = .ok (.iload 11, 2) := by decide +kernel
theorem dX12_foretoldOf_110 : decode cX12_foretoldOf 110 = .ok (.iload 10, 2) := by decide +kernel
theorem dX12_foretoldOf_112 : decode cX12_foretoldOf 112 = .ok (.isub, 1) := by decide +kernel
theorem dX12_foretoldOf_113 : decode cX12_foretoldOf 113 = .ok (.iconst 1, 1) := by decide +kernel
theorem dX12_foretoldOf_114 : decode cX12_foretoldOf 114 = .ok (.iadd, 1) := by decide +kernel
theorem dX12_foretoldOf_115 : decode cX12_foretoldOf 115 = .ok (.istore 12, 2) := by decide +kernel
theorem dX12_foretoldOf_117 : decode cX12_foretoldOf 117 = .ok (.iload 5, 2) := by decide +kernel
theorem dX12_foretoldOf_119 : decode cX12_foretoldOf 119 = .ok (.iload 4, 2) := by decide +kernel
theorem dX12_foretoldOf_121 : decode cX12_foretoldOf 121 = .ok (.ifCond .ne 24, 3) := by decide +kernel
theorem dX12_foretoldOf_124 : decode cX12_foretoldOf 124 = .ok (.iload 12, 2) := by decide +kernel
theorem dX12_foretoldOf_126 : decode cX12_foretoldOf 126 = .ok (.iload 9, 2) := by decide +kernel
theorem dX12_foretoldOf_128 : decode cX12_foretoldOf 128 = .ok (.iload 8, 2) := by decide +kernel
theorem dX12_foretoldOf_130 : decode cX12_foretoldOf 130 = .ok (.isub, 1) := by decide +kernel
theorem dX12_foretoldOf_131 : decode cX12_foretoldOf 131 = .ok (.iconst 1, 1) := by decide +kernel
theorem dX12_foretoldOf_132 : decode cX12_foretoldOf 132 = .ok (.iadd, 1) := by decide +kernel
theorem dX12_foretoldOf_133 : decode cX12_foretoldOf 133 = .ok (.if_icmp .ne 8, 3) := by decide +kernel
theorem dX12_foretoldOf_136 : decode cX12_foretoldOf 136 = .ok (.iload 7, 2) := by decide +kernel
theorem dX12_foretoldOf_138 : decode cX12_foretoldOf 138 = .ok (.goto 40, 3) := by decide +kernel
theorem dX12_foretoldOf_141 : decode cX12_foretoldOf 141 = .ok (.iconst 0, 1) := by decide +kernel
theorem dX12_foretoldOf_142 : decode cX12_foretoldOf 142 = .ok (.goto 36, 3) := by decide +kernel
theorem dX12_foretoldOf_145 : decode cX12_foretoldOf 145 = .ok (.iload 4, 2) := by decide +kernel
theorem dX12_foretoldOf_147 : decode cX12_foretoldOf 147 = .ok (.iconst 1, 1) := by decide +kernel
theorem dX12_foretoldOf_148 : decode cX12_foretoldOf 148 = .ok (.if_icmp .ne 17, 3) := by decide +kernel
theorem dX12_foretoldOf_151 : decode cX12_foretoldOf 151 = .ok (.iload 12, 2) := by decide +kernel
theorem dX12_foretoldOf_153 : decode cX12_foretoldOf 153 = .ok (.ifCond .le 8, 3) := by decide +kernel
theorem dX12_foretoldOf_156 : decode cX12_foretoldOf 156 = .ok (.iload 7, 2) := by decide +kernel
theorem dX12_foretoldOf_158 : decode cX12_foretoldOf 158 = .ok (.goto 20, 3) := by decide +kernel
theorem dX12_foretoldOf_161 : decode cX12_foretoldOf 161 = .ok (.iconst 0, 1) := by decide +kernel
theorem dX12_foretoldOf_162 : decode cX12_foretoldOf 162 = .ok (.goto 16, 3) := by decide +kernel
theorem dX12_foretoldOf_165 : decode cX12_foretoldOf 165 = .ok (.iload 7, 2) := by decide +kernel
theorem dX12_foretoldOf_167 : decode cX12_foretoldOf 167 = .ok (.iload 12, 2) := by decide +kernel
theorem dX12_foretoldOf_169 : decode cX12_foretoldOf 169 = .ok (.imul, 1) := by decide +kernel
theorem dX12_foretoldOf_170 : decode cX12_foretoldOf 170 = .ok (.iload 9, 2) := by decide +kernel
theorem dX12_foretoldOf_172 : decode cX12_foretoldOf 172 = .ok (.iload 8, 2) := by decide +kernel
theorem dX12_foretoldOf_174 : decode cX12_foretoldOf 174 = .ok (.isub, 1) := by decide +kernel
theorem dX12_foretoldOf_175 : decode cX12_foretoldOf 175 = .ok (.iconst 1, 1) := by decide +kernel
theorem dX12_foretoldOf_176 : decode cX12_foretoldOf 176 = .ok (.iadd, 1) := by decide +kernel
theorem dX12_foretoldOf_177 : decode cX12_foretoldOf 177 = .ok (.idiv, 1) := by decide +kernel
theorem dX12_foretoldOf_178 : decode cX12_foretoldOf 178 = .ok (.iadd, 1) := by decide +kernel
theorem dX12_foretoldOf_179 : decode cX12_foretoldOf 179 = .ok (.istore 5, 2) := by decide +kernel
theorem dX12_foretoldOf_181 : decode cX12_foretoldOf 181 = .ok (.iinc 6 1, 3) := by decide +kernel
theorem dX12_foretoldOf_184 : decode cX12_foretoldOf 184 = .ok (.goto (-178), 3) := by decide +kernel
theorem dX12_foretoldOf_187 : decode cX12_foretoldOf 187 = .ok (.iload 5, 2) := by decide +kernel
theorem dX12_foretoldOf_189 : decode cX12_foretoldOf 189 = .ok (.ireturn, 1) := by decide +kernel
theorem dX12_foretold_0 : decode cX12_foretold 0 = .ok (.iload_n 1, 1) := by decide +kernel
theorem dX12_foretold_1 : decode cX12_foretold 1 = .ok (.iconst 0, 1) := by decide +kernel
theorem dX12_foretold_2 : decode cX12_foretold 2 = .ok (.iconst 3, 1) := by decide +kernel
theorem dX12_foretold_3 : decode cX12_foretold 3 = .ok (.invokestatic 82, 3) := by decide +kernel
theorem dX12_foretold_6 : decode cX12_foretold 6 = .ok (.ifCond .ne 6, 3) := by decide +kernel
theorem dX12_foretold_9 : decode cX12_foretold 9 = .ok (.bipush (-101), 2) := by decide +kernel
theorem dX12_foretold_11 : decode cX12_foretold 11 = .ok (.ireturn, 1) := by decide +kernel
theorem dX12_foretold_12 : decode cX12_foretold 12 = .ok (.iload 4, 2) := by decide +kernel
theorem dX12_foretold_14 : decode cX12_foretold 14 = .ok (.iconst 0, 1) := by decide +kernel
theorem dX12_foretold_15 : decode cX12_foretold 15 = .ok (.iconst 2, 1) := by decide +kernel
theorem dX12_foretold_16 : decode cX12_foretold 16 = .ok (.invokestatic 82, 3) := by decide +kernel
theorem dX12_foretold_19 : decode cX12_foretold 19 = .ok (.ifCond .eq 20, 3) := by decide +kernel
theorem dX12_foretold_22 : decode cX12_foretold 22 = .ok (.iload_n 2, 1) := by decide +kernel
theorem dX12_foretold_23 : decode cX12_foretold 23 = .ok (.invokestatic 136, 3) := by decide +kernel
theorem dX12_foretold_26 : decode cX12_foretold 26 = .ok (.ifCond .eq 13, 3) := by decide +kernel
theorem dX12_foretold_29 : decode cX12_foretold 29 = .ok (.iload_n 3, 1) := by decide +kernel
theorem dX12_foretold_30 : decode cX12_foretold 30 = .ok (.iload_n 2, 1) := by decide +kernel
theorem dX12_foretold_31 : decode cX12_foretold 31 = .ok (.bipush 99, 2) := by decide +kernel
theorem dX12_foretold_33 : decode cX12_foretold 33 = .ok (.invokestatic 82, 3) := by decide +kernel
theorem dX12_foretold_36 : decode cX12_foretold 36 = .ok (.ifCond .ne 6, 3) := by decide +kernel
theorem dX12_foretold_39 : decode cX12_foretold 39 = .ok (.bipush (-102), 2) := by decide +kernel
theorem dX12_foretold_41 : decode cX12_foretold 41 = .ok (.ireturn, 1) := by decide +kernel
theorem dX12_foretold_42 : decode cX12_foretold 42 = .ok (.aload_n 0, 1) := by decide +kernel
theorem dX12_foretold_43 : decode cX12_foretold 43 = .ok (.getfield 58, 3) := by decide +kernel
theorem dX12_foretold_46 : decode cX12_foretold 46 = .ok (.iload_n 1, 1) := by decide +kernel
theorem dX12_foretold_47 : decode cX12_foretold 47 = .ok (.baload, 1) := by decide +kernel
theorem dX12_foretold_48 : decode cX12_foretold 48 = .ok (.ifCond .eq 15, 3) := by decide +kernel
theorem dX12_foretold_51 : decode cX12_foretold 51 = .ok (.aload_n 0, 1) := by decide +kernel
theorem dX12_foretold_52 : decode cX12_foretold 52 = .ok (.iload_n 1, 1) := by decide +kernel
theorem dX12_foretold_53 : decode cX12_foretold 53 = .ok (.iload_n 2, 1) := by decide +kernel
theorem dX12_foretold_54 : decode cX12_foretold 54 = .ok (.iload_n 3, 1) := by decide +kernel
theorem dX12_foretold_55 : decode cX12_foretold 55 = .ok (.iload 4, 2) := by decide +kernel
theorem dX12_foretold_57 : decode cX12_foretold 57 = .ok (.invokevirtual 308, 3) := by decide +kernel
theorem dX12_foretold_60 : decode cX12_foretold 60 = .ok (.goto 4, 3) := by decide +kernel
theorem dX12_foretold_63 : decode cX12_foretold 63 = .ok (.iconst (-1), 1) := by decide +kernel
theorem dX12_foretold_64 : decode cX12_foretold 64 = .ok (.ireturn, 1) := by decide +kernel
theorem dX12_likelyBy_0 : decode cX12_likelyBy 0 = .ok (.aload_n 0, 1) := by decide +kernel
theorem dX12_likelyBy_1 : decode cX12_likelyBy 1 = .ok (.getfield 302, 3) := by decide +kernel
theorem dX12_likelyBy_4 : decode cX12_likelyBy 4 = .ok (.istore_n 3, 1) := by decide +kernel
theorem dX12_likelyBy_5 : decode cX12_likelyBy 5 = .ok (.iconst 0, 1) := by decide +kernel
theorem dX12_likelyBy_6 : decode cX12_likelyBy 6 = .ok (.istore 4, 2) := by decide +kernel
theorem dX12_likelyBy_8 : decode cX12_likelyBy 8 = .ok (.iload 4, 2) := by decide +kernel
theorem dX12_likelyBy_10 : decode cX12_likelyBy 10 = .ok (.iconst 4, 1) := by decide +kernel
theorem dX12_likelyBy_11 : decode cX12_likelyBy 11 = .ok (.if_icmp .ge 75, 3) := by decide +kernel
theorem dX12_likelyBy_14 : decode cX12_likelyBy 14 = .ok (.aload_n 0, 1) := by decide +kernel
theorem dX12_likelyBy_15 : decode cX12_likelyBy 15 = .ok (.getfield 302, 3) := by decide +kernel
theorem dX12_likelyBy_18 : decode cX12_likelyBy 18 = .ok (.ifCond .le 68, 3) := by decide +kernel
theorem dX12_likelyBy_21 : decode cX12_likelyBy 21 = .ok (.iload_n 2, 1) := by decide +kernel
theorem dX12_likelyBy_22 : decode cX12_likelyBy 22 = .ok (.iload 4, 2) := by decide +kernel
theorem dX12_likelyBy_24 : decode cX12_likelyBy 24 = .ok (.ishr, 1) := by decide +kernel
theorem dX12_likelyBy_25 : decode cX12_likelyBy 25 = .ok (.iconst 1, 1) := by decide +kernel
theorem dX12_likelyBy_26 : decode cX12_likelyBy 26 = .ok (.iand, 1) := by decide +kernel
theorem dX12_likelyBy_27 : decode cX12_likelyBy 27 = .ok (.iconst 1, 1) := by decide +kernel
theorem dX12_likelyBy_28 : decode cX12_likelyBy 28 = .ok (.if_icmp .ne 52, 3) := by decide +kernel
theorem dX12_likelyBy_31 : decode cX12_likelyBy 31 = .ok (.aload_n 0, 1) := by decide +kernel
theorem dX12_likelyBy_32 : decode cX12_likelyBy 32 = .ok (.iload_n 1, 1) := by decide +kernel
theorem dX12_likelyBy_33 : decode cX12_likelyBy 33 = .ok (.iload 4, 2) := by decide +kernel
theorem dX12_likelyBy_35 : decode cX12_likelyBy 35 = .ok (.invokevirtual 216, 3) := by decide +kernel
theorem dX12_likelyBy_38 : decode cX12_likelyBy 38 = .ok (.ifCond .eq 42, 3) := by decide +kernel
theorem dX12_likelyBy_41 : decode cX12_likelyBy 41 = .ok (.aload_n 0, 1) := by decide +kernel
theorem dX12_likelyBy_42 : decode cX12_likelyBy 42 = .ok (.getfield 58, 3) := by decide +kernel
theorem dX12_likelyBy_45 : decode cX12_likelyBy 45 = .ok (.iload 4, 2) := by decide +kernel
theorem dX12_likelyBy_47 : decode cX12_likelyBy 47 = .ok (.baload, 1) := by decide +kernel
theorem dX12_likelyBy_48 : decode cX12_likelyBy 48 = .ok (.ifCond .eq 32, 3) := by decide +kernel
theorem dX12_likelyBy_51 : decode cX12_likelyBy 51 = .ok (.iload_n 3, 1) := by decide +kernel
theorem dX12_likelyBy_52 : decode cX12_likelyBy 52 = .ok (.aload_n 0, 1) := by decide +kernel
theorem dX12_likelyBy_53 : decode cX12_likelyBy 53 = .ok (.iload 4, 2) := by decide +kernel
theorem dX12_likelyBy_55 : decode cX12_likelyBy 55 = .ok (.aload_n 0, 1) := by decide +kernel
theorem dX12_likelyBy_56 : decode cX12_likelyBy 56 = .ok (.iload_n 1, 1) := by decide +kernel
theorem dX12_likelyBy_57 : decode cX12_likelyBy 57 = .ok (.iload 4, 2) := by decide +kernel
theorem dX12_likelyBy_59 : decode cX12_likelyBy 59 = .ok (.invokevirtual 194, 3) := by decide +kernel
theorem dX12_likelyBy_62 : decode cX12_likelyBy 62 = .ok (.aload_n 0, 1) := by decide +kernel
theorem dX12_likelyBy_63 : decode cX12_likelyBy 63 = .ok (.iload_n 1, 1) := by decide +kernel
theorem dX12_likelyBy_64 : decode cX12_likelyBy 64 = .ok (.iload 4, 2) := by decide +kernel
theorem dX12_likelyBy_66 : decode cX12_likelyBy 66 = .ok (.invokevirtual 197, 3) := by decide +kernel
theorem dX12_likelyBy_69 : decode cX12_likelyBy 69 = .ok (.iconst 2, 1) := by decide +kernel
theorem dX12_likelyBy_70 : decode cX12_likelyBy 70 = .ok (.invokevirtual 308, 3) := by decide +kernel
theorem dX12_likelyBy_73 : decode cX12_likelyBy 73 = .ok (.imul, 1) := by decide +kernel
theorem dX12_likelyBy_74 : decode cX12_likelyBy 74 = .ok (.aload_n 0, 1) := by decide +kernel
theorem dX12_likelyBy_75 : decode cX12_likelyBy 75 = .ok (.getfield 302, 3) := by decide +kernel
theorem dX12_likelyBy_78 : decode cX12_likelyBy 78 = .ok (.idiv, 1) := by decide +kernel
theorem dX12_likelyBy_79 : decode cX12_likelyBy 79 = .ok (.istore_n 3, 1) := by decide +kernel
theorem dX12_likelyBy_80 : decode cX12_likelyBy 80 = .ok (.iinc 4 1, 3) := by decide +kernel
theorem dX12_likelyBy_83 : decode cX12_likelyBy 83 = .ok (.goto (-75), 3) := by decide +kernel
theorem dX12_likelyBy_86 : decode cX12_likelyBy 86 = .ok (.iload_n 3, 1) := by decide +kernel
theorem dX12_likelyBy_87 : decode cX12_likelyBy 87 = .ok (.ireturn, 1) := by decide +kernel
theorem dX12_likely_0 : decode cX12_likely 0 = .ok (.aload_n 0, 1) := by decide +kernel
theorem dX12_likely_1 : decode cX12_likely 1 = .ok (.iload_n 1, 1) := by decide +kernel
theorem dX12_likely_2 : decode cX12_likely 2 = .ok (.invokevirtual 200, 3) := by decide +kernel
theorem dX12_likely_5 : decode cX12_likely 5 = .ok (.ifCond .eq 13, 3) := by decide +kernel
theorem dX12_likely_8 : decode cX12_likely 8 = .ok (.aload_n 0, 1) := by decide +kernel
theorem dX12_likely_9 : decode cX12_likely 9 = .ok (.iload_n 1, 1) := by decide +kernel
theorem dX12_likely_10 : decode cX12_likely 10 = .ok (.bipush 15, 2) := by decide +kernel
theorem dX12_likely_12 : decode cX12_likely 12 = .ok (.invokevirtual 312, 3) := by decide +kernel
theorem dX12_likely_15 : decode cX12_likely 15 = .ok (.goto 5, 3) := by decide +kernel
theorem dX12_likely_18 : decode cX12_likely 18 = .ok (.bipush (-101), 2) := by decide +kernel
theorem dX12_likely_20 : decode cX12_likely 20 = .ok (.ireturn, 1) := by decide +kernel
theorem dX12_guessBy_0 : decode cX12_guessBy 0 = .ok (.iconst 0, 1) := by decide +kernel
theorem dX12_guessBy_1 : decode cX12_guessBy 1 = .ok (.istore_n 3, 1) := by decide +kernel
theorem dX12_guessBy_2 : decode cX12_guessBy 2 = .ok (.iconst 0, 1) := by decide +kernel
theorem dX12_guessBy_3 : decode cX12_guessBy 3 = .ok (.istore 4, 2) := by decide +kernel
theorem dX12_guessBy_5 : decode cX12_guessBy 5 = .ok (.iconst 0, 1) := by decide +kernel
theorem dX12_guessBy_6 : decode cX12_guessBy 6 = .ok (.istore 5, 2) := by decide +kernel
theorem dX12_guessBy_8 : decode cX12_guessBy 8 = .ok (.iload 5, 2) := by decide +kernel
theorem dX12_guessBy_10 : decode cX12_guessBy 10 = .ok (.aload_n 0, 1) := by decide +kernel
theorem dX12_guessBy_11 : decode cX12_guessBy 11 = .ok (.getfield 21, 3) := by decide +kernel
theorem dX12_guessBy_14 : decode cX12_guessBy 14 = .ok (.iload_n 2, 1) := by decide +kernel
theorem dX12_guessBy_15 : decode cX12_guessBy 15 = .ok (.iaload, 1) := by decide +kernel
theorem dX12_guessBy_16 : decode cX12_guessBy 16 = .ok (.invokestatic 86, 3) := by decide +kernel
theorem dX12_guessBy_19 : decode cX12_guessBy 19 = .ok (.if_icmp .ge 58, 3) := by decide +kernel
theorem dX12_guessBy_22 : decode cX12_guessBy 22 = .ok (.iload_n 3, 1) := by decide +kernel
theorem dX12_guessBy_23 : decode cX12_guessBy 23 = .ok (.iload 5, 2) := by decide +kernel
theorem dX12_guessBy_25 : decode cX12_guessBy 25 = .ok (.aload_n 0, 1) := by decide +kernel
theorem dX12_guessBy_26 : decode cX12_guessBy 26 = .ok (.iload_n 1, 1) := by decide +kernel
theorem dX12_guessBy_27 : decode cX12_guessBy 27 = .ok (.iload_n 2, 1) := by decide +kernel
theorem dX12_guessBy_28 : decode cX12_guessBy 28 = .ok (.invokevirtual 219, 3) := by decide +kernel
theorem dX12_guessBy_31 : decode cX12_guessBy 31 = .ok (.if_icmp .ge 19, 3) := by decide +kernel
theorem dX12_guessBy_34 : decode cX12_guessBy 34 = .ok (.iconst 1, 1) := by decide +kernel
theorem dX12_guessBy_35 : decode cX12_guessBy 35 = .ok (.aload_n 0, 1) := by decide +kernel
theorem dX12_guessBy_36 : decode cX12_guessBy 36 = .ok (.getfield 21, 3) := by decide +kernel
theorem dX12_guessBy_39 : decode cX12_guessBy 39 = .ok (.iload_n 2, 1) := by decide +kernel
theorem dX12_guessBy_40 : decode cX12_guessBy 40 = .ok (.iaload, 1) := by decide +kernel
theorem dX12_guessBy_41 : decode cX12_guessBy 41 = .ok (.iload 5, 2) := by decide +kernel
theorem dX12_guessBy_43 : decode cX12_guessBy 43 = .ok (.invokestatic 90, 3) := by decide +kernel
theorem dX12_guessBy_46 : decode cX12_guessBy 46 = .ok (.ishl, 1) := by decide +kernel
theorem dX12_guessBy_47 : decode cX12_guessBy 47 = .ok (.goto 4, 3) := by decide +kernel
theorem dX12_guessBy_50 : decode cX12_guessBy 50 = .ok (.iconst 0, 1) := by decide +kernel
theorem dX12_guessBy_51 : decode cX12_guessBy 51 = .ok (.ior, 1) := by decide +kernel
theorem dX12_guessBy_52 : decode cX12_guessBy 52 = .ok (.istore_n 3, 1) := by decide +kernel
theorem dX12_guessBy_53 : decode cX12_guessBy 53 = .ok (.iload 4, 2) := by decide +kernel
theorem dX12_guessBy_55 : decode cX12_guessBy 55 = .ok (.iconst 1, 1) := by decide +kernel
theorem dX12_guessBy_56 : decode cX12_guessBy 56 = .ok (.aload_n 0, 1) := by decide +kernel
theorem dX12_guessBy_57 : decode cX12_guessBy 57 = .ok (.getfield 21, 3) := by decide +kernel
theorem dX12_guessBy_60 : decode cX12_guessBy 60 = .ok (.iload_n 2, 1) := by decide +kernel
theorem dX12_guessBy_61 : decode cX12_guessBy 61 = .ok (.iaload, 1) := by decide +kernel
theorem dX12_guessBy_62 : decode cX12_guessBy 62 = .ok (.iload 5, 2) := by decide +kernel
theorem dX12_guessBy_64 : decode cX12_guessBy 64 = .ok (.invokestatic 90, 3) := by decide +kernel
theorem dX12_guessBy_67 : decode cX12_guessBy 67 = .ok (.ishl, 1) := by decide +kernel
theorem dX12_guessBy_68 : decode cX12_guessBy 68 = .ok (.ior, 1) := by decide +kernel
theorem dX12_guessBy_69 : decode cX12_guessBy 69 = .ok (.istore 4, 2) := by decide +kernel
theorem dX12_guessBy_71 : decode cX12_guessBy 71 = .ok (.iinc 5 1, 3) := by decide +kernel
theorem dX12_guessBy_74 : decode cX12_guessBy 74 = .ok (.goto (-66), 3) := by decide +kernel
theorem dX12_guessBy_77 : decode cX12_guessBy 77 = .ok (.aload_n 0, 1) := by decide +kernel
theorem dX12_guessBy_78 : decode cX12_guessBy 78 = .ok (.getfield 21, 3) := by decide +kernel
theorem dX12_guessBy_81 : decode cX12_guessBy 81 = .ok (.iload_n 2, 1) := by decide +kernel
theorem dX12_guessBy_82 : decode cX12_guessBy 82 = .ok (.iaload, 1) := by decide +kernel
theorem dX12_guessBy_83 : decode cX12_guessBy 83 = .ok (.invokestatic 100, 3) := by decide +kernel
theorem dX12_guessBy_86 : decode cX12_guessBy 86 = .ok (.istore 5, 2) := by decide +kernel
theorem dX12_guessBy_88 : decode cX12_guessBy 88 = .ok (.aload_n 0, 1) := by decide +kernel
theorem dX12_guessBy_89 : decode cX12_guessBy 89 = .ok (.iload_n 1, 1) := by decide +kernel
theorem dX12_guessBy_90 : decode cX12_guessBy 90 = .ok (.iload_n 3, 1) := by decide +kernel
theorem dX12_guessBy_91 : decode cX12_guessBy 91 = .ok (.invokevirtual 312, 3) := by decide +kernel
theorem dX12_guessBy_94 : decode cX12_guessBy 94 = .ok (.iload 5, 2) := by decide +kernel
theorem dX12_guessBy_96 : decode cX12_guessBy 96 = .ok (.iadd, 1) := by decide +kernel
theorem dX12_guessBy_97 : decode cX12_guessBy 97 = .ok (.iconst 1, 1) := by decide +kernel
theorem dX12_guessBy_98 : decode cX12_guessBy 98 = .ok (.isub, 1) := by decide +kernel
theorem dX12_guessBy_99 : decode cX12_guessBy 99 = .ok (.iload 5, 2) := by decide +kernel
theorem dX12_guessBy_101 : decode cX12_guessBy 101 = .ok (.idiv, 1) := by decide +kernel
theorem dX12_guessBy_102 : decode cX12_guessBy 102 = .ok (.istore 6, 2) := by decide +kernel
theorem dX12_guessBy_104 : decode cX12_guessBy 104 = .ok (.aload_n 0, 1) := by decide +kernel
theorem dX12_guessBy_105 : decode cX12_guessBy 105 = .ok (.iload_n 1, 1) := by decide +kernel
theorem dX12_guessBy_106 : decode cX12_guessBy 106 = .ok (.iload 4, 2) := by decide +kernel
theorem dX12_guessBy_108 : decode cX12_guessBy 108 = .ok (.invokevirtual 312, 3) := by decide +kernel
theorem dX12_guessBy_111 : decode cX12_guessBy 111 = .ok (.istore 7, 2) := by decide +kernel
theorem dX12_guessBy_113 : decode cX12_guessBy 113 = .ok (.aload_n 0, 1) := by decide +kernel
theorem dX12_guessBy_114 : decode cX12_guessBy 114 = .ok (.iload_n 1, 1) := by decide +kernel
theorem dX12_guessBy_115 : decode cX12_guessBy 115 = .ok (.iload_n 2, 1) := by decide +kernel
theorem dX12_guessBy_116 : decode cX12_guessBy 116 = .ok (.invokevirtual 244, 3) := by decide +kernel
theorem dX12_guessBy_119 : decode cX12_guessBy 119 = .ok (.ifCond .eq 7, 3) := by decide +kernel
theorem dX12_guessBy_122 : decode cX12_guessBy 122 = .ok (.iconst 0, 1) := by decide +kernel
theorem dX12_guessBy_123 : decode cX12_guessBy 123 = .ok (.goto 21, 3) := by decide +kernel
theorem dX12_guessBy_126 : decode cX12_guessBy 126 = .ok (.iload 7, 2) := by decide +kernel
theorem dX12_guessBy_128 : decode cX12_guessBy 128 = .ok (.aload_n 0, 1) := by decide +kernel
theorem dX12_guessBy_129 : decode cX12_guessBy 129 = .ok (.invokevirtual 238, 3) := by decide +kernel
theorem dX12_guessBy_132 : decode cX12_guessBy 132 = .ok (.if_icmp .ge 8, 3) := by decide +kernel
theorem dX12_guessBy_135 : decode cX12_guessBy 135 = .ok (.iload 7, 2) := by decide +kernel
theorem dX12_guessBy_137 : decode cX12_guessBy 137 = .ok (.goto 7, 3) := by decide +kernel
theorem dX12_guessBy_140 : decode cX12_guessBy 140 = .ok (.aload_n 0, 1) := by decide +kernel
theorem dX12_guessBy_141 : decode cX12_guessBy 141 = .ok (.invokevirtual 238, 3) := by decide +kernel
theorem dX12_guessBy_144 : decode cX12_guessBy 144 = .ok (.istore 8, 2) := by decide +kernel
theorem dX12_guessBy_146 : decode cX12_guessBy 146 = .ok (.aload_n 0, 1) := by decide +kernel
theorem dX12_guessBy_147 : decode cX12_guessBy 147 = .ok (.iload_n 2, 1) := by decide +kernel
theorem dX12_guessBy_148 : decode cX12_guessBy 148 = .ok (.invokevirtual 124, 3) := by decide +kernel
theorem dX12_guessBy_151 : decode cX12_guessBy 151 = .ok (.iload 6, 2) := by decide +kernel
theorem dX12_guessBy_153 : decode cX12_guessBy 153 = .ok (.iconst 1, 1) := by decide +kernel
theorem dX12_guessBy_154 : decode cX12_guessBy 154 = .ok (.if_icmp .ge 7, 3) := by decide +kernel
theorem dX12_guessBy_157 : decode cX12_guessBy 157 = .ok (.iconst 1, 1) := by decide +kernel
theorem dX12_guessBy_158 : decode cX12_guessBy 158 = .ok (.goto 5, 3) := by decide +kernel
theorem dX12_guessBy_161 : decode cX12_guessBy 161 = .ok (.iload 6, 2) := by decide +kernel
theorem dX12_guessBy_163 : decode cX12_guessBy 163 = .ok (.iadd, 1) := by decide +kernel
theorem dX12_guessBy_164 : decode cX12_guessBy 164 = .ok (.iload 8, 2) := by decide +kernel
theorem dX12_guessBy_166 : decode cX12_guessBy 166 = .ok (.iadd, 1) := by decide +kernel
theorem dX12_guessBy_167 : decode cX12_guessBy 167 = .ok (.aload_n 0, 1) := by decide +kernel
theorem dX12_guessBy_168 : decode cX12_guessBy 168 = .ok (.iload_n 1, 1) := by decide +kernel
theorem dX12_guessBy_169 : decode cX12_guessBy 169 = .ok (.iload_n 2, 1) := by decide +kernel
theorem dX12_guessBy_170 : decode cX12_guessBy 170 = .ok (.invokevirtual 251, 3) := by decide +kernel
theorem dX12_guessBy_173 : decode cX12_guessBy 173 = .ok (.ifCond .eq 7, 3) := by decide +kernel
theorem dX12_guessBy_176 : decode cX12_guessBy 176 = .ok (.iconst 0, 1) := by decide +kernel
theorem dX12_guessBy_177 : decode cX12_guessBy 177 = .ok (.goto 10, 3) := by decide +kernel
theorem dX12_guessBy_180 : decode cX12_guessBy 180 = .ok (.aload_n 0, 1) := by decide +kernel
theorem dX12_guessBy_181 : decode cX12_guessBy 181 = .ok (.iload_n 1, 1) := by decide +kernel
theorem dX12_guessBy_182 : decode cX12_guessBy 182 = .ok (.bipush 15, 2) := by decide +kernel
theorem dX12_guessBy_184 : decode cX12_guessBy 184 = .ok (.invokevirtual 312, 3) := by decide +kernel
theorem dX12_guessBy_187 : decode cX12_guessBy 187 = .ok (.iadd, 1) := by decide +kernel
theorem dX12_guessBy_188 : decode cX12_guessBy 188 = .ok (.ireturn, 1) := by decide +kernel
theorem dX12_guessOf_0 : decode cX12_guessOf 0 = .ok (.iload_n 2, 1) := by decide +kernel
theorem dX12_guessOf_1 : decode cX12_guessOf 1 = .ok (.ifCond .ne 30, 3) := by decide +kernel
theorem dX12_guessOf_4 : decode cX12_guessOf 4 = .ok (.aload_n 0, 1) := by decide +kernel
theorem dX12_guessOf_5 : decode cX12_guessOf 5 = .ok (.invokevirtual 238, 3) := by decide +kernel
theorem dX12_guessOf_8 : decode cX12_guessOf 8 = .ok (.aload_n 0, 1) := by decide +kernel
theorem dX12_guessOf_9 : decode cX12_guessOf 9 = .ok (.iload_n 1, 1) := by decide +kernel
theorem dX12_guessOf_10 : decode cX12_guessOf 10 = .ok (.invokevirtual 235, 3) := by decide +kernel
theorem dX12_guessOf_13 : decode cX12_guessOf 13 = .ok (.ifCond .eq 7, 3) := by decide +kernel
theorem dX12_guessOf_16 : decode cX12_guessOf 16 = .ok (.iconst 0, 1) := by decide +kernel
theorem dX12_guessOf_17 : decode cX12_guessOf 17 = .ok (.goto 10, 3) := by decide +kernel
theorem dX12_guessOf_20 : decode cX12_guessOf 20 = .ok (.aload_n 0, 1) := by decide +kernel
theorem dX12_guessOf_21 : decode cX12_guessOf 21 = .ok (.iload_n 1, 1) := by decide +kernel
theorem dX12_guessOf_22 : decode cX12_guessOf 22 = .ok (.bipush 15, 2) := by decide +kernel
theorem dX12_guessOf_24 : decode cX12_guessOf 24 = .ok (.invokevirtual 312, 3) := by decide +kernel
theorem dX12_guessOf_27 : decode cX12_guessOf 27 = .ok (.iadd, 1) := by decide +kernel
theorem dX12_guessOf_28 : decode cX12_guessOf 28 = .ok (.goto 11, 3) := by decide +kernel
theorem dX12_guessOf_31 : decode cX12_guessOf 31 = .ok (.aload_n 0, 1) := by decide +kernel
theorem dX12_guessOf_32 : decode cX12_guessOf 32 = .ok (.iload_n 1, 1) := by decide +kernel
theorem dX12_guessOf_33 : decode cX12_guessOf 33 = .ok (.iload_n 2, 1) := by decide +kernel
theorem dX12_guessOf_34 : decode cX12_guessOf 34 = .ok (.iconst 1, 1) := by decide +kernel
theorem dX12_guessOf_35 : decode cX12_guessOf 35 = .ok (.isub, 1) := by decide +kernel
theorem dX12_guessOf_36 : decode cX12_guessOf 36 = .ok (.invokevirtual 315, 3) := by decide +kernel
theorem dX12_guessOf_39 : decode cX12_guessOf 39 = .ok (.ireturn, 1) := by decide +kernel
theorem dX12_guess_0 : decode cX12_guess 0 = .ok (.aload_n 0, 1) := by decide +kernel
theorem dX12_guess_1 : decode cX12_guess 1 = .ok (.iload_n 1, 1) := by decide +kernel
theorem dX12_guess_2 : decode cX12_guess 2 = .ok (.invokevirtual 200, 3) := by decide +kernel
theorem dX12_guess_5 : decode cX12_guess 5 = .ok (.ifCond .eq 17, 3) := by decide +kernel
theorem dX12_guess_8 : decode cX12_guess 8 = .ok (.iload_n 2, 1) := by decide +kernel
theorem dX12_guess_9 : decode cX12_guess 9 = .ok (.ifCond .eq 16, 3) := by decide +kernel
theorem dX12_guess_12 : decode cX12_guess 12 = .ok (.aload_n 0, 1) := by decide +kernel
theorem dX12_guess_13 : decode cX12_guess 13 = .ok (.iload_n 2, 1) := by decide +kernel
theorem dX12_guess_14 : decode cX12_guess 14 = .ok (.iconst 1, 1) := by decide +kernel
theorem dX12_guess_15 : decode cX12_guess 15 = .ok (.isub, 1) := by decide +kernel
theorem dX12_guess_16 : decode cX12_guess 16 = .ok (.invokevirtual 118, 3) := by decide +kernel
theorem dX12_guess_19 : decode cX12_guess 19 = .ok (.ifCond .ne 6, 3) := by decide +kernel
theorem dX12_guess_22 : decode cX12_guess 22 = .ok (.bipush (-101), 2) := by decide +kernel
theorem dX12_guess_24 : decode cX12_guess 24 = .ok (.ireturn, 1) := by decide +kernel
theorem dX12_guess_25 : decode cX12_guess 25 = .ok (.aload_n 0, 1) := by decide +kernel
theorem dX12_guess_26 : decode cX12_guess 26 = .ok (.iload_n 1, 1) := by decide +kernel
theorem dX12_guess_27 : decode cX12_guess 27 = .ok (.iload_n 2, 1) := by decide +kernel
theorem dX12_guess_28 : decode cX12_guess 28 = .ok (.invokevirtual 318, 3) := by decide +kernel
theorem dX12_guess_31 : decode cX12_guess 31 = .ok (.ireturn, 1) := by decide +kernel
theorem dX12_chosenOf_0 : decode cX12_chosenOf 0 = .ok (.iconst 0, 1) := by decide +kernel
theorem dX12_chosenOf_1 : decode cX12_chosenOf 1 = .ok (.istore_n 2, 1) := by decide +kernel
theorem dX12_chosenOf_2 : decode cX12_chosenOf 2 = .ok (.iconst 0, 1) := by decide +kernel
theorem dX12_chosenOf_3 : decode cX12_chosenOf 3 = .ok (.istore_n 3, 1) := by decide +kernel
theorem dX12_chosenOf_4 : decode cX12_chosenOf 4 = .ok (.iload_n 3, 1) := by decide +kernel
theorem dX12_chosenOf_5 : decode cX12_chosenOf 5 = .ok (.aload_n 0, 1) := by decide +kernel
theorem dX12_chosenOf_6 : decode cX12_chosenOf 6 = .ok (.getfield 94, 3) := by decide +kernel
theorem dX12_chosenOf_9 : decode cX12_chosenOf 9 = .ok (.if_icmp .ge 43, 3) := by decide +kernel
theorem dX12_chosenOf_12 : decode cX12_chosenOf 12 = .ok (.aload_n 0, 1) := by decide +kernel
theorem dX12_chosenOf_13 : decode cX12_chosenOf 13 = .ok (.getfield 24, 3) := by decide +kernel
theorem dX12_chosenOf_16 : decode cX12_chosenOf 16 = .ok (.iload_n 3, 1) := by decide +kernel
theorem dX12_chosenOf_17 : decode cX12_chosenOf 17 = .ok (.baload, 1) := by decide +kernel
theorem dX12_chosenOf_18 : decode cX12_chosenOf 18 = .ok (.ifCond .ne 26, 3) := by decide +kernel
theorem dX12_chosenOf_21 : decode cX12_chosenOf 21 = .ok (.aload_n 0, 1) := by decide +kernel
theorem dX12_chosenOf_22 : decode cX12_chosenOf 22 = .ok (.iload_n 1, 1) := by decide +kernel
theorem dX12_chosenOf_23 : decode cX12_chosenOf 23 = .ok (.iconst 1, 1) := by decide +kernel
theorem dX12_chosenOf_24 : decode cX12_chosenOf 24 = .ok (.iload_n 3, 1) := by decide +kernel
theorem dX12_chosenOf_25 : decode cX12_chosenOf 25 = .ok (.iadd, 1) := by decide +kernel
theorem dX12_chosenOf_26 : decode cX12_chosenOf 26 = .ok (.invokevirtual 318, 3) := by decide +kernel
theorem dX12_chosenOf_29 : decode cX12_chosenOf 29 = .ok (.aload_n 0, 1) := by decide +kernel
theorem dX12_chosenOf_30 : decode cX12_chosenOf 30 = .ok (.iload_n 1, 1) := by decide +kernel
theorem dX12_chosenOf_31 : decode cX12_chosenOf 31 = .ok (.iload_n 2, 1) := by decide +kernel
theorem dX12_chosenOf_32 : decode cX12_chosenOf 32 = .ok (.invokevirtual 318, 3) := by decide +kernel
theorem dX12_chosenOf_35 : decode cX12_chosenOf 35 = .ok (.if_icmp .ge 9, 3) := by decide +kernel
theorem dX12_chosenOf_38 : decode cX12_chosenOf 38 = .ok (.iconst 1, 1) := by decide +kernel
theorem dX12_chosenOf_39 : decode cX12_chosenOf 39 = .ok (.iload_n 3, 1) := by decide +kernel
theorem dX12_chosenOf_40 : decode cX12_chosenOf 40 = .ok (.iadd, 1) := by decide +kernel
theorem dX12_chosenOf_41 : decode cX12_chosenOf 41 = .ok (.goto 4, 3) := by decide +kernel
theorem dX12_chosenOf_44 : decode cX12_chosenOf 44 = .ok (.iload_n 2, 1) := by decide +kernel
theorem dX12_chosenOf_45 : decode cX12_chosenOf 45 = .ok (.istore_n 2, 1) := by decide +kernel
theorem dX12_chosenOf_46 : decode cX12_chosenOf 46 = .ok (.iinc 3 1, 3) := by decide +kernel
theorem dX12_chosenOf_49 : decode cX12_chosenOf 49 = .ok (.goto (-45), 3) := by decide +kernel
theorem dX12_chosenOf_52 : decode cX12_chosenOf 52 = .ok (.iload_n 2, 1) := by decide +kernel
theorem dX12_chosenOf_53 : decode cX12_chosenOf 53 = .ok (.ireturn, 1) := by decide +kernel
theorem dX12_chosen_0 : decode cX12_chosen 0 = .ok (.aload_n 0, 1) := by decide +kernel
theorem dX12_chosen_1 : decode cX12_chosen 1 = .ok (.iload_n 1, 1) := by decide +kernel
theorem dX12_chosen_2 : decode cX12_chosen 2 = .ok (.invokevirtual 200, 3) := by decide +kernel
theorem dX12_chosen_5 : decode cX12_chosen 5 = .ok (.ifCond .eq 11, 3) := by decide +kernel
theorem dX12_chosen_8 : decode cX12_chosen 8 = .ok (.aload_n 0, 1) := by decide +kernel
theorem dX12_chosen_9 : decode cX12_chosen 9 = .ok (.iload_n 1, 1) := by decide +kernel
theorem dX12_chosen_10 : decode cX12_chosen 10 = .ok (.invokevirtual 321, 3) := by decide +kernel
theorem dX12_chosen_13 : decode cX12_chosen 13 = .ok (.goto 5, 3) := by decide +kernel
theorem dX12_chosen_16 : decode cX12_chosen 16 = .ok (.bipush (-101), 2) := by decide +kernel
theorem dX12_chosen_18 : decode cX12_chosen 18 = .ok (.ireturn, 1) := by decide +kernel
theorem dX12_regret_0 : decode cX12_regret 0 = .ok (.aload_n 0, 1) := by decide +kernel
theorem dX12_regret_1 : decode cX12_regret 1 = .ok (.iload_n 1, 1) := by decide +kernel
theorem dX12_regret_2 : decode cX12_regret 2 = .ok (.invokevirtual 200, 3) := by decide +kernel
theorem dX12_regret_5 : decode cX12_regret 5 = .ok (.ifCond .ne 6, 3) := by decide +kernel
theorem dX12_regret_8 : decode cX12_regret 8 = .ok (.bipush (-101), 2) := by decide +kernel
theorem dX12_regret_10 : decode cX12_regret 10 = .ok (.ireturn, 1) := by decide +kernel
theorem dX12_regret_11 : decode cX12_regret 11 = .ok (.aload_n 0, 1) := by decide +kernel
theorem dX12_regret_12 : decode cX12_regret 12 = .ok (.iload_n 1, 1) := by decide +kernel
theorem dX12_regret_13 : decode cX12_regret 13 = .ok (.aload_n 0, 1) := by decide +kernel
theorem dX12_regret_14 : decode cX12_regret 14 = .ok (.iload_n 1, 1) := by decide +kernel
theorem dX12_regret_15 : decode cX12_regret 15 = .ok (.invokevirtual 321, 3) := by decide +kernel
theorem dX12_regret_18 : decode cX12_regret 18 = .ok (.invokevirtual 263, 3) := by decide +kernel
theorem dX12_regret_21 : decode cX12_regret 21 = .ok (.istore_n 2, 1) := by decide +kernel
theorem dX12_regret_22 : decode cX12_regret 22 = .ok (.aload_n 0, 1) := by decide +kernel
theorem dX12_regret_23 : decode cX12_regret 23 = .ok (.iload_n 1, 1) := by decide +kernel
theorem dX12_regret_24 : decode cX12_regret 24 = .ok (.invokevirtual 275, 3) := by decide +kernel
theorem dX12_regret_27 : decode cX12_regret 27 = .ok (.aload_n 0, 1) := by decide +kernel
theorem dX12_regret_28 : decode cX12_regret 28 = .ok (.iload_n 1, 1) := by decide +kernel
theorem dX12_regret_29 : decode cX12_regret 29 = .ok (.sipush 255, 3) := by decide +kernel
theorem dX12_regret_32 : decode cX12_regret 32 = .ok (.invokevirtual 278, 3) := by decide +kernel
theorem dX12_regret_35 : decode cX12_regret 35 = .ok (.iload_n 2, 1) := by decide +kernel
theorem dX12_regret_36 : decode cX12_regret 36 = .ok (.aload_n 0, 1) := by decide +kernel
theorem dX12_regret_37 : decode cX12_regret 37 = .ok (.getfield 266, 3) := by decide +kernel
theorem dX12_regret_40 : decode cX12_regret 40 = .ok (.isub, 1) := by decide +kernel
theorem dX12_regret_41 : decode cX12_regret 41 = .ok (.ireturn, 1) := by decide +kernel
theorem dX12_mark_0 : decode cX12_mark 0 = .ok (.aload_n 0, 1) := by decide +kernel
theorem dX12_mark_1 : decode cX12_mark 1 = .ok (.getfield 324, 3) := by decide +kernel
theorem dX12_mark_4 : decode cX12_mark 4 = .ok (.iconst 3, 1) := by decide +kernel
theorem dX12_mark_5 : decode cX12_mark 5 = .ok (.if_icmp .ne 6, 3) := by decide +kernel
theorem dX12_mark_8 : decode cX12_mark 8 = .ok (.bipush (-104), 2) := by decide +kernel
theorem dX12_mark_10 : decode cX12_mark 10 = .ok (.ireturn, 1) := by decide +kernel
theorem dX12_mark_11 : decode cX12_mark 11 = .ok (.iconst 0, 1) := by decide +kernel
theorem dX12_mark_12 : decode cX12_mark 12 = .ok (.istore_n 1, 1) := by decide +kernel
theorem dX12_mark_13 : decode cX12_mark 13 = .ok (.iload_n 1, 1) := by decide +kernel
theorem dX12_mark_14 : decode cX12_mark 14 = .ok (.bipush 64, 2) := by decide +kernel
theorem dX12_mark_16 : decode cX12_mark 16 = .ok (.if_icmp .ge 29, 3) := by decide +kernel
theorem dX12_mark_19 : decode cX12_mark 19 = .ok (.aload_n 0, 1) := by decide +kernel
theorem dX12_mark_20 : decode cX12_mark 20 = .ok (.getfield 64, 3) := by decide +kernel
theorem dX12_mark_23 : decode cX12_mark 23 = .ok (.bipush 64, 2) := by decide +kernel
theorem dX12_mark_25 : decode cX12_mark 25 = .ok (.aload_n 0, 1) := by decide +kernel
theorem dX12_mark_26 : decode cX12_mark 26 = .ok (.getfield 324, 3) := by decide +kernel
theorem dX12_mark_29 : decode cX12_mark 29 = .ok (.imul, 1) := by decide +kernel
theorem dX12_mark_30 : decode cX12_mark 30 = .ok (.iload_n 1, 1) := by decide +kernel
theorem dX12_mark_31 : decode cX12_mark 31 = .ok (.iadd, 1) := by decide +kernel
theorem dX12_mark_32 : decode cX12_mark 32 = .ok (.aload_n 0, 1) := by decide +kernel
theorem dX12_mark_33 : decode cX12_mark 33 = .ok (.getfield 7, 3) := by decide +kernel
theorem dX12_mark_36 : decode cX12_mark 36 = .ok (.iload_n 1, 1) := by decide +kernel
theorem dX12_mark_37 : decode cX12_mark 37 = .ok (.baload, 1) := by decide +kernel
theorem dX12_mark_38 : decode cX12_mark 38 = .ok (.bastore, 1) := by decide +kernel
theorem dX12_mark_39 : decode cX12_mark 39 = .ok (.iinc 1 1, 3) := by decide +kernel
theorem dX12_mark_42 : decode cX12_mark 42 = .ok (.goto (-29), 3) := by decide +kernel
theorem dX12_mark_45 : decode cX12_mark 45 = .ok (.iconst 0, 1) := by decide +kernel
theorem dX12_mark_46 : decode cX12_mark 46 = .ok (.istore_n 1, 1) := by decide +kernel
theorem dX12_mark_47 : decode cX12_mark 47 = .ok (.iload_n 1, 1) := by decide +kernel
theorem dX12_mark_48 : decode cX12_mark 48 = .ok (.sipush 256, 3) := by decide +kernel
theorem dX12_mark_51 : decode cX12_mark 51 = .ok (.if_icmp .ge 30, 3) := by decide +kernel
theorem dX12_mark_54 : decode cX12_mark 54 = .ok (.aload_n 0, 1) := by decide +kernel
theorem dX12_mark_55 : decode cX12_mark 55 = .ok (.getfield 67, 3) := by decide +kernel
theorem dX12_mark_58 : decode cX12_mark 58 = .ok (.sipush 256, 3) := by decide +kernel
theorem dX12_mark_61 : decode cX12_mark 61 = .ok (.aload_n 0, 1) := by decide +kernel
theorem dX12_mark_62 : decode cX12_mark 62 = .ok (.getfield 324, 3) := by decide +kernel
theorem dX12_mark_65 : decode cX12_mark 65 = .ok (.imul, 1) := by decide +kernel
theorem dX12_mark_66 : decode cX12_mark 66 = .ok (.iload_n 1, 1) := by decide +kernel
theorem dX12_mark_67 : decode cX12_mark 67 = .ok (.iadd, 1) := by decide +kernel
theorem dX12_mark_68 : decode cX12_mark 68 = .ok (.aload_n 0, 1) := by decide +kernel
theorem dX12_mark_69 : decode cX12_mark 69 = .ok (.getfield 13, 3) := by decide +kernel
theorem dX12_mark_72 : decode cX12_mark 72 = .ok (.iload_n 1, 1) := by decide +kernel
theorem dX12_mark_73 : decode cX12_mark 73 = .ok (.iaload, 1) := by decide +kernel
theorem dX12_mark_74 : decode cX12_mark 74 = .ok (.iastore, 1) := by decide +kernel
theorem dX12_mark_75 : decode cX12_mark 75 = .ok (.iinc 1 1, 3) := by decide +kernel
theorem dX12_mark_78 : decode cX12_mark 78 = .ok (.goto (-31), 3) := by decide +kernel
theorem dX12_mark_81 : decode cX12_mark 81 = .ok (.aload_n 0, 1) := by decide +kernel
theorem dX12_mark_82 : decode cX12_mark 82 = .ok (.dup, 1) := by decide +kernel
theorem dX12_mark_83 : decode cX12_mark 83 = .ok (.getfield 324, 3) := by decide +kernel
theorem dX12_mark_86 : decode cX12_mark 86 = .ok (.iconst 1, 1) := by decide +kernel
theorem dX12_mark_87 : decode cX12_mark 87 = .ok (.iadd, 1) := by decide +kernel
theorem dX12_mark_88 : decode cX12_mark 88 = .ok (.putfield 324, 3) := by decide +kernel
theorem dX12_mark_91 : decode cX12_mark 91 = .ok (.aload_n 0, 1) := by decide +kernel
theorem dX12_mark_92 : decode cX12_mark 92 = .ok (.getfield 324, 3) := by decide +kernel
theorem dX12_mark_95 : decode cX12_mark 95 = .ok (.ireturn, 1) := by decide +kernel
theorem dX12_back_0 : decode cX12_back 0 = .ok (.iload_n 1, 1) := by decide +kernel
theorem dX12_back_1 : decode cX12_back 1 = .ok (.iconst 0, 1) := by decide +kernel
theorem dX12_back_2 : decode cX12_back 2 = .ok (.aload_n 0, 1) := by decide +kernel
theorem dX12_back_3 : decode cX12_back 3 = .ok (.getfield 324, 3) := by decide +kernel
theorem dX12_back_6 : decode cX12_back 6 = .ok (.iconst 1, 1) := by decide +kernel
theorem dX12_back_7 : decode cX12_back 7 = .ok (.isub, 1) := by decide +kernel
theorem dX12_back_8 : decode cX12_back 8 = .ok (.invokestatic 82, 3) := by decide +kernel
theorem dX12_back_11 : decode cX12_back 11 = .ok (.ifCond .ne 6, 3) := by decide +kernel
theorem dX12_back_14 : decode cX12_back 14 = .ok (.bipush (-101), 2) := by decide +kernel
theorem dX12_back_16 : decode cX12_back 16 = .ok (.ireturn, 1) := by decide +kernel
theorem dX12_back_17 : decode cX12_back 17 = .ok (.aload_n 0, 1) := by decide +kernel
theorem dX12_back_18 : decode cX12_back 18 = .ok (.iconst 0, 1) := by decide +kernel
theorem dX12_back_19 : decode cX12_back 19 = .ok (.putfield 130, 3) := by decide +kernel
theorem dX12_back_22 : decode cX12_back 22 = .ok (.iconst 0, 1) := by decide +kernel
theorem dX12_back_23 : decode cX12_back 23 = .ok (.istore_n 2, 1) := by decide +kernel
theorem dX12_back_24 : decode cX12_back 24 = .ok (.iload_n 2, 1) := by decide +kernel
theorem dX12_back_25 : decode cX12_back 25 = .ok (.bipush 64, 2) := by decide +kernel
theorem dX12_back_27 : decode cX12_back 27 = .ok (.if_icmp .ge 49, 3) := by decide +kernel
theorem dX12_back_30 : decode cX12_back 30 = .ok (.aload_n 0, 1) := by decide +kernel
theorem dX12_back_31 : decode cX12_back 31 = .ok (.getfield 7, 3) := by decide +kernel
theorem dX12_back_34 : decode cX12_back 34 = .ok (.iload_n 2, 1) := by decide +kernel
theorem dX12_back_35 : decode cX12_back 35 = .ok (.aload_n 0, 1) := by decide +kernel
theorem dX12_back_36 : decode cX12_back 36 = .ok (.getfield 64, 3) := by decide +kernel
theorem dX12_back_39 : decode cX12_back 39 = .ok (.bipush 64, 2) := by decide +kernel
theorem dX12_back_41 : decode cX12_back 41 = .ok (.iload_n 1, 1) := by decide +kernel
theorem dX12_back_42 : decode cX12_back 42 = .ok (.imul, 1) := by decide +kernel
theorem dX12_back_43 : decode cX12_back 43 = .ok (.iload_n 2, 1) := by decide +kernel
theorem dX12_back_44 : decode cX12_back 44 = .ok (.iadd, 1) := by decide +kernel
theorem dX12_back_45 : decode cX12_back 45 = .ok (.baload, 1) := by decide +kernel
theorem dX12_back_46 : decode cX12_back 46 = .ok (.bastore, 1) := by decide +kernel
theorem dX12_back_47 : decode cX12_back 47 = .ok (.aload_n 0, 1) := by decide +kernel
theorem dX12_back_48 : decode cX12_back 48 = .ok (.dup, 1) := by decide +kernel
theorem dX12_back_49 : decode cX12_back 49 = .ok (.getfield 130, 3) := by decide +kernel
theorem dX12_back_52 : decode cX12_back 52 = .ok (.aload_n 0, 1) := by decide +kernel
theorem dX12_back_53 : decode cX12_back 53 = .ok (.getfield 7, 3) := by decide +kernel
theorem dX12_back_56 : decode cX12_back 56 = .ok (.iload_n 2, 1) := by decide +kernel
theorem dX12_back_57 : decode cX12_back 57 = .ok (.baload, 1) := by decide +kernel
theorem dX12_back_58 : decode cX12_back 58 = .ok (.ifCond .eq 7, 3) := by decide +kernel
theorem dX12_back_61 : decode cX12_back 61 = .ok (.iconst 1, 1) := by decide +kernel
theorem dX12_back_62 : decode cX12_back 62 = .ok (.goto 4, 3) := by decide +kernel
theorem dX12_back_65 : decode cX12_back 65 = .ok (.iconst 0, 1) := by decide +kernel
theorem dX12_back_66 : decode cX12_back 66 = .ok (.iadd, 1) := by decide +kernel
theorem dX12_back_67 : decode cX12_back 67 = .ok (.putfield 130, 3) := by decide +kernel
theorem dX12_back_70 : decode cX12_back 70 = .ok (.iinc 2 1, 3) := by decide +kernel
theorem dX12_back_73 : decode cX12_back 73 = .ok (.goto (-49), 3) := by decide +kernel
theorem dX12_back_76 : decode cX12_back 76 = .ok (.iconst 0, 1) := by decide +kernel
theorem dX12_back_77 : decode cX12_back 77 = .ok (.istore_n 2, 1) := by decide +kernel
theorem dX12_back_78 : decode cX12_back 78 = .ok (.iload_n 2, 1) := by decide +kernel
theorem dX12_back_79 : decode cX12_back 79 = .ok (.sipush 256, 3) := by decide +kernel
theorem dX12_back_82 : decode cX12_back 82 = .ok (.if_icmp .ge 27, 3) := by decide +kernel
theorem dX12_back_85 : decode cX12_back 85 = .ok (.aload_n 0, 1) := by decide +kernel
theorem dX12_back_86 : decode cX12_back 86 = .ok (.getfield 13, 3) := by decide +kernel
theorem dX12_back_89 : decode cX12_back 89 = .ok (.iload_n 2, 1) := by decide +kernel
theorem dX12_back_90 : decode cX12_back 90 = .ok (.aload_n 0, 1) := by decide +kernel
theorem dX12_back_91 : decode cX12_back 91 = .ok (.getfield 67, 3) := by decide +kernel
theorem dX12_back_94 : decode cX12_back 94 = .ok (.sipush 256, 3) := by decide +kernel
theorem dX12_back_97 : decode cX12_back 97 = .ok (.iload_n 1, 1) := by decide +kernel
theorem dX12_back_98 : decode cX12_back 98 = .ok (.imul, 1) := by decide +kernel
theorem dX12_back_99 : decode cX12_back 99 = .ok (.iload_n 2, 1) := by decide +kernel
theorem dX12_back_100 : decode cX12_back 100 = .ok (.iadd, 1) := by decide +kernel
theorem dX12_back_101 : decode cX12_back 101 = .ok (.iaload, 1) := by decide +kernel
theorem dX12_back_102 : decode cX12_back 102 = .ok (.iastore, 1) := by decide +kernel
theorem dX12_back_103 : decode cX12_back 103 = .ok (.iinc 2 1, 3) := by decide +kernel
theorem dX12_back_106 : decode cX12_back 106 = .ok (.goto (-28), 3) := by decide +kernel
theorem dX12_back_109 : decode cX12_back 109 = .ok (.iconst 0, 1) := by decide +kernel
theorem dX12_back_110 : decode cX12_back 110 = .ok (.istore_n 2, 1) := by decide +kernel
theorem dX12_back_111 : decode cX12_back 111 = .ok (.iload_n 2, 1) := by decide +kernel
theorem dX12_back_112 : decode cX12_back 112 = .ok (.aload_n 0, 1) := by decide +kernel
theorem dX12_back_113 : decode cX12_back 113 = .ok (.getfield 94, 3) := by decide +kernel
theorem dX12_back_116 : decode cX12_back 116 = .ok (.if_icmp .ge 23, 3) := by decide +kernel
theorem dX12_back_119 : decode cX12_back 119 = .ok (.aload_n 0, 1) := by decide +kernel
theorem dX12_back_120 : decode cX12_back 120 = .ok (.getfield 24, 3) := by decide +kernel
theorem dX12_back_123 : decode cX12_back 123 = .ok (.iload_n 2, 1) := by decide +kernel
theorem dX12_back_124 : decode cX12_back 124 = .ok (.baload, 1) := by decide +kernel
theorem dX12_back_125 : decode cX12_back 125 = .ok (.ifCond .ne 8, 3) := by decide +kernel
theorem dX12_back_128 : decode cX12_back 128 = .ok (.aload_n 0, 1) := by decide +kernel
theorem dX12_back_129 : decode cX12_back 129 = .ok (.iload_n 2, 1) := by decide +kernel
theorem dX12_back_130 : decode cX12_back 130 = .ok (.invokevirtual 114, 3) := by decide +kernel
theorem dX12_back_133 : decode cX12_back 133 = .ok (.iinc 2 1, 3) := by decide +kernel
theorem dX12_back_136 : decode cX12_back 136 = .ok (.goto (-25), 3) := by decide +kernel
theorem dX12_back_139 : decode cX12_back 139 = .ok (.aload_n 0, 1) := by decide +kernel
theorem dX12_back_140 : decode cX12_back 140 = .ok (.iload_n 1, 1) := by decide +kernel
theorem dX12_back_141 : decode cX12_back 141 = .ok (.iconst 1, 1) := by decide +kernel
theorem dX12_back_142 : decode cX12_back 142 = .ok (.iadd, 1) := by decide +kernel
theorem dX12_back_143 : decode cX12_back 143 = .ok (.putfield 324, 3) := by decide +kernel
theorem dX12_back_146 : decode cX12_back 146 = .ok (.aload_n 0, 1) := by decide +kernel
theorem dX12_back_147 : decode cX12_back 147 = .ok (.getfield 130, 3) := by decide +kernel
theorem dX12_back_150 : decode cX12_back 150 = .ok (.ireturn, 1) := by decide +kernel
theorem dX12_kept_0 : decode cX12_kept 0 = .ok (.iconst 0, 1) := by decide +kernel
theorem dX12_kept_1 : decode cX12_kept 1 = .ok (.istore_n 1, 1) := by decide +kernel
theorem dX12_kept_2 : decode cX12_kept 2 = .ok (.iconst 0, 1) := by decide +kernel
theorem dX12_kept_3 : decode cX12_kept 3 = .ok (.istore_n 2, 1) := by decide +kernel
theorem dX12_kept_4 : decode cX12_kept 4 = .ok (.iload_n 2, 1) := by decide +kernel
theorem dX12_kept_5 : decode cX12_kept 5 = .ok (.aload_n 0, 1) := by decide +kernel
theorem dX12_kept_6 : decode cX12_kept 6 = .ok (.getfield 94, 3) := by decide +kernel
theorem dX12_kept_9 : decode cX12_kept 9 = .ok (.if_icmp .ge 26, 3) := by decide +kernel
theorem dX12_kept_12 : decode cX12_kept 12 = .ok (.iload_n 1, 1) := by decide +kernel
theorem dX12_kept_13 : decode cX12_kept 13 = .ok (.aload_n 0, 1) := by decide +kernel
theorem dX12_kept_14 : decode cX12_kept 14 = .ok (.getfield 24, 3) := by decide +kernel
theorem dX12_kept_17 : decode cX12_kept 17 = .ok (.iload_n 2, 1) := by decide +kernel
theorem dX12_kept_18 : decode cX12_kept 18 = .ok (.baload, 1) := by decide +kernel
theorem dX12_kept_19 : decode cX12_kept 19 = .ok (.ifCond .eq 7, 3) := by decide +kernel
theorem dX12_kept_22 : decode cX12_kept 22 = .ok (.iconst 0, 1) := by decide +kernel
theorem dX12_kept_23 : decode cX12_kept 23 = .ok (.goto 4, 3) := by decide +kernel
theorem dX12_kept_26 : decode cX12_kept 26 = .ok (.iconst 1, 1) := by decide +kernel
theorem dX12_kept_27 : decode cX12_kept 27 = .ok (.iadd, 1) := by decide +kernel
theorem dX12_kept_28 : decode cX12_kept 28 = .ok (.istore_n 1, 1) := by decide +kernel
theorem dX12_kept_29 : decode cX12_kept 29 = .ok (.iinc 2 1, 3) := by decide +kernel
theorem dX12_kept_32 : decode cX12_kept 32 = .ok (.goto (-28), 3) := by decide +kernel
theorem dX12_kept_35 : decode cX12_kept 35 = .ok (.iload_n 1, 1) := by decide +kernel
theorem dX12_kept_36 : decode cX12_kept 36 = .ok (.ireturn, 1) := by decide +kernel
theorem dX12_countOf_0 : decode cX12_countOf 0 = .ok (.iload_n 1, 1) := by decide +kernel
theorem dX12_countOf_1 : decode cX12_countOf 1 = .ok (.tableswitch 96 0 8 #[51, 56, 61, 66, 71, 76, 81, 86, 91], 51) := by decide +kernel
theorem dX12_countOf_52 : decode cX12_countOf 52 = .ok (.aload_n 0, 1) := by decide +kernel
theorem dX12_countOf_53 : decode cX12_countOf 53 = .ok (.getfield 130, 3) := by decide +kernel
theorem dX12_countOf_56 : decode cX12_countOf 56 = .ok (.ireturn, 1) := by decide +kernel
theorem dX12_countOf_57 : decode cX12_countOf 57 = .ok (.aload_n 0, 1) := by decide +kernel
theorem dX12_countOf_58 : decode cX12_countOf 58 = .ok (.invokevirtual 238, 3) := by decide +kernel
theorem dX12_countOf_61 : decode cX12_countOf 61 = .ok (.ireturn, 1) := by decide +kernel
theorem dX12_countOf_62 : decode cX12_countOf 62 = .ok (.aload_n 0, 1) := by decide +kernel
theorem dX12_countOf_63 : decode cX12_countOf 63 = .ok (.invokevirtual 327, 3) := by decide +kernel
theorem dX12_countOf_66 : decode cX12_countOf 66 = .ok (.ireturn, 1) := by decide +kernel
theorem dX12_countOf_67 : decode cX12_countOf 67 = .ok (.aload_n 0, 1) := by decide +kernel
theorem dX12_countOf_68 : decode cX12_countOf 68 = .ok (.getfield 94, 3) := by decide +kernel
theorem dX12_countOf_71 : decode cX12_countOf 71 = .ok (.ireturn, 1) := by decide +kernel
theorem dX12_countOf_72 : decode cX12_countOf 72 = .ok (.aload_n 0, 1) := by decide +kernel
theorem dX12_countOf_73 : decode cX12_countOf 73 = .ok (.getfield 191, 3) := by decide +kernel
theorem dX12_countOf_76 : decode cX12_countOf 76 = .ok (.ireturn, 1) := by decide +kernel
theorem dX12_countOf_77 : decode cX12_countOf 77 = .ok (.aload_n 0, 1) := by decide +kernel
theorem dX12_countOf_78 : decode cX12_countOf 78 = .ok (.getfield 324, 3) := by decide +kernel
theorem dX12_countOf_81 : decode cX12_countOf 81 = .ok (.ireturn, 1) := by decide +kernel
theorem dX12_countOf_82 : decode cX12_countOf 82 = .ok (.aload_n 0, 1) := by decide +kernel
theorem dX12_countOf_83 : decode cX12_countOf 83 = .ok (.getfield 168, 3) := by decide +kernel
theorem dX12_countOf_86 : decode cX12_countOf 86 = .ok (.ireturn, 1) := by decide +kernel
theorem dX12_countOf_87 : decode cX12_countOf 87 = .ok (.aload_n 0, 1) := by decide +kernel
theorem dX12_countOf_88 : decode cX12_countOf 88 = .ok (.getfield 290, 3) := by decide +kernel
theorem dX12_countOf_91 : decode cX12_countOf 91 = .ok (.ireturn, 1) := by decide +kernel
theorem dX12_countOf_92 : decode cX12_countOf 92 = .ok (.aload_n 0, 1) := by decide +kernel
theorem dX12_countOf_93 : decode cX12_countOf 93 = .ok (.getfield 299, 3) := by decide +kernel
theorem dX12_countOf_96 : decode cX12_countOf 96 = .ok (.ireturn, 1) := by decide +kernel
theorem dX12_countOf_97 : decode cX12_countOf 97 = .ok (.bipush (-102), 2) := by decide +kernel
theorem dX12_countOf_99 : decode cX12_countOf 99 = .ok (.ireturn, 1) := by decide +kernel
theorem dX12_count_0 : decode cX12_count 0 = .ok (.aload_n 0, 1) := by decide +kernel
theorem dX12_count_1 : decode cX12_count 1 = .ok (.iload_n 1, 1) := by decide +kernel
theorem dX12_count_2 : decode cX12_count 2 = .ok (.invokevirtual 330, 3) := by decide +kernel
theorem dX12_count_5 : decode cX12_count 5 = .ok (.ireturn, 1) := by decide +kernel
theorem dX12_mix_0 : decode cX12_mix 0 = .ok (.aload_n 0, 1) := by decide +kernel
theorem dX12_mix_1 : decode cX12_mix 1 = .ok (.ldc2_w 333, 3) := by decide +kernel
theorem dX12_mix_4 : decode cX12_mix 4 = .ok (.aload_n 0, 1) := by decide +kernel
theorem dX12_mix_5 : decode cX12_mix 5 = .ok (.getfield 335, 3) := by decide +kernel
theorem dX12_mix_8 : decode cX12_mix 8 = .ok (.lmul, 1) := by decide +kernel
theorem dX12_mix_9 : decode cX12_mix 9 = .ok (.lload_n 1, 1) := by decide +kernel
theorem dX12_mix_10 : decode cX12_mix 10 = .ok (.ladd, 1) := by decide +kernel
theorem dX12_mix_11 : decode cX12_mix 11 = .ok (.putfield 335, 3) := by decide +kernel
theorem dX12_mix_14 : decode cX12_mix 14 = .ok (.return_, 1) := by decide +kernel
theorem dX12_mixTable_0 : decode cX12_mixTable 0 = .ok (.aload_n 0, 1) := by decide +kernel
theorem dX12_mixTable_1 : decode cX12_mixTable 1 = .ok (.aload_n 0, 1) := by decide +kernel
theorem dX12_mixTable_2 : decode cX12_mixTable 2 = .ok (.getfield 17, 3) := by decide +kernel
theorem dX12_mixTable_5 : decode cX12_mixTable 5 = .ok (.i2l, 1) := by decide +kernel
theorem dX12_mixTable_6 : decode cX12_mixTable 6 = .ok (.invokevirtual 339, 3) := by decide +kernel
theorem dX12_mixTable_9 : decode cX12_mixTable 9 = .ok (.iconst 0, 1) := by decide +kernel
theorem dX12_mixTable_10 : decode cX12_mixTable 10 = .ok (.istore_n 1, 1) := by decide +kernel
theorem dX12_mixTable_11 : decode cX12_mixTable 11 = .ok (.iload_n 1, 1) := by decide +kernel
theorem dX12_mixTable_12 : decode cX12_mixTable 12 = .ok (.bipush 64, 2) := by decide +kernel
theorem dX12_mixTable_14 : decode cX12_mixTable 14 = .ok (.if_icmp .ge 52, 3) := by decide +kernel
theorem dX12_mixTable_17 : decode cX12_mixTable 17 = .ok (.iconst 0, 1) := by decide +kernel
theorem dX12_mixTable_18 : decode cX12_mixTable 18 = .ok (.istore_n 2, 1) := by decide +kernel
theorem dX12_mixTable_19 : decode cX12_mixTable 19 = .ok (.iload_n 2, 1) := by decide +kernel
theorem dX12_mixTable_20 : decode cX12_mixTable 20 = .ok (.iconst 4, 1) := by decide +kernel
theorem dX12_mixTable_21 : decode cX12_mixTable 21 = .ok (.if_icmp .ge 39, 3) := by decide +kernel
theorem dX12_mixTable_24 : decode cX12_mixTable 24 = .ok (.aload_n 0, 1) := by decide +kernel
theorem dX12_mixTable_25 : decode cX12_mixTable 25 = .ok (.aload_n 0, 1) := by decide +kernel
theorem dX12_mixTable_26 : decode cX12_mixTable 26 = .ok (.getfield 7, 3) := by decide +kernel
theorem dX12_mixTable_29 : decode cX12_mixTable 29 = .ok (.iload_n 1, 1) := by decide +kernel
theorem dX12_mixTable_30 : decode cX12_mixTable 30 = .ok (.baload, 1) := by decide +kernel
theorem dX12_mixTable_31 : decode cX12_mixTable 31 = .ok (.ifCond .eq 17, 3) := by decide +kernel
theorem dX12_mixTable_34 : decode cX12_mixTable 34 = .ok (.aload_n 0, 1) := by decide +kernel
theorem dX12_mixTable_35 : decode cX12_mixTable 35 = .ok (.getfield 13, 3) := by decide +kernel
theorem dX12_mixTable_38 : decode cX12_mixTable 38 = .ok (.iconst 4, 1) := by decide +kernel
theorem dX12_mixTable_39 : decode cX12_mixTable 39 = .ok (.iload_n 1, 1) := by decide +kernel
theorem dX12_mixTable_40 : decode cX12_mixTable 40 = .ok (.imul, 1) := by decide +kernel
theorem dX12_mixTable_41 : decode cX12_mixTable 41 = .ok (.iload_n 2, 1) := by decide +kernel
theorem dX12_mixTable_42 : decode cX12_mixTable 42 = .ok (.iadd, 1) := by decide +kernel
theorem dX12_mixTable_43 : decode cX12_mixTable 43 = .ok (.iaload, 1) := by decide +kernel
theorem dX12_mixTable_44 : decode cX12_mixTable 44 = .ok (.i2l, 1) := by decide +kernel
theorem dX12_mixTable_45 : decode cX12_mixTable 45 = .ok (.goto 6, 3) := by decide +kernel
theorem dX12_mixTable_48 : decode cX12_mixTable 48 = .ok (.ldc2_w 343, 3) := by decide +kernel
theorem dX12_mixTable_51 : decode cX12_mixTable 51 = .ok (.invokevirtual 339, 3) := by decide +kernel
theorem dX12_mixTable_54 : decode cX12_mixTable 54 = .ok (.iinc 2 1, 3) := by decide +kernel
theorem dX12_mixTable_57 : decode cX12_mixTable 57 = .ok (.goto (-38), 3) := by decide +kernel
theorem dX12_mixTable_60 : decode cX12_mixTable 60 = .ok (.iinc 1 1, 3) := by decide +kernel
theorem dX12_mixTable_63 : decode cX12_mixTable 63 = .ok (.goto (-52), 3) := by decide +kernel
theorem dX12_mixTable_66 : decode cX12_mixTable 66 = .ok (.iconst 0, 1) := by decide +kernel
theorem dX12_mixTable_67 : decode cX12_mixTable 67 = .ok (.istore_n 1, 1) := by decide +kernel
theorem dX12_mixTable_68 : decode cX12_mixTable 68 = .ok (.iload_n 1, 1) := by decide +kernel
theorem dX12_mixTable_69 : decode cX12_mixTable 69 = .ok (.aload_n 0, 1) := by decide +kernel
theorem dX12_mixTable_70 : decode cX12_mixTable 70 = .ok (.getfield 94, 3) := by decide +kernel
theorem dX12_mixTable_73 : decode cX12_mixTable 73 = .ok (.if_icmp .ge 76, 3) := by decide +kernel
theorem dX12_mixTable_76 : decode cX12_mixTable 76 = .ok (.aload_n 0, 1) := by decide +kernel
theorem dX12_mixTable_77 : decode cX12_mixTable 77 = .ok (.getfield 24, 3) := by decide +kernel
theorem dX12_mixTable_80 : decode cX12_mixTable 80 = .ok (.iload_n 1, 1) := by decide +kernel
theorem dX12_mixTable_81 : decode cX12_mixTable 81 = .ok (.baload, 1) := by decide +kernel
theorem dX12_mixTable_82 : decode cX12_mixTable 82 = .ok (.ifCond .ne 61, 3) := by decide +kernel
theorem dX12_mixTable_85 : decode cX12_mixTable 85 = .ok (.iconst 0, 1) := by decide +kernel
theorem dX12_mixTable_86 : decode cX12_mixTable 86 = .ok (.istore_n 2, 1) := by decide +kernel
theorem dX12_mixTable_87 : decode cX12_mixTable 87 = .ok (.iload_n 2, 1) := by decide +kernel
theorem dX12_mixTable_88 : decode cX12_mixTable 88 = .ok (.iconst 5, 1) := by decide +kernel
theorem dX12_mixTable_89 : decode cX12_mixTable 89 = .ok (.if_icmp .ge 20, 3) := by decide +kernel
theorem dX12_mixTable_92 : decode cX12_mixTable 92 = .ok (.aload_n 0, 1) := by decide +kernel
theorem dX12_mixTable_93 : decode cX12_mixTable 93 = .ok (.aload_n 0, 1) := by decide +kernel
theorem dX12_mixTable_94 : decode cX12_mixTable 94 = .ok (.iload_n 1, 1) := by decide +kernel
theorem dX12_mixTable_95 : decode cX12_mixTable 95 = .ok (.iload_n 2, 1) := by decide +kernel
theorem dX12_mixTable_96 : decode cX12_mixTable 96 = .ok (.invokevirtual 127, 3) := by decide +kernel
theorem dX12_mixTable_99 : decode cX12_mixTable 99 = .ok (.i2l, 1) := by decide +kernel
theorem dX12_mixTable_100 : decode cX12_mixTable 100 = .ok (.invokevirtual 339, 3) := by decide +kernel
theorem dX12_mixTable_103 : decode cX12_mixTable 103 = .ok (.iinc 2 1, 3) := by decide +kernel
theorem dX12_mixTable_106 : decode cX12_mixTable 106 = .ok (.goto (-19), 3) := by decide +kernel
theorem dX12_mixTable_109 : decode cX12_mixTable 109 = .ok (.iconst 0, 1) := by decide +kernel
theorem dX12_mixTable_110 : decode cX12_mixTable 110 = .ok (.istore_n 2, 1) := by decide +kernel
theorem dX12_mixTable_111 : decode cX12_mixTable 111 = .ok (.iload_n 2, 1) := by decide +kernel
theorem dX12_mixTable_112 : decode cX12_mixTable 112 = .ok (.aload_n 0, 1) := by decide +kernel
theorem dX12_mixTable_113 : decode cX12_mixTable 113 = .ok (.getfield 33, 3) := by decide +kernel
theorem dX12_mixTable_116 : decode cX12_mixTable 116 = .ok (.iload_n 1, 1) := by decide +kernel
theorem dX12_mixTable_117 : decode cX12_mixTable 117 = .ok (.iaload, 1) := by decide +kernel
theorem dX12_mixTable_118 : decode cX12_mixTable 118 = .ok (.if_icmp .ge 25, 3) := by decide +kernel
theorem dX12_mixTable_121 : decode cX12_mixTable 121 = .ok (.aload_n 0, 1) := by decide +kernel
theorem dX12_mixTable_122 : decode cX12_mixTable 122 = .ok (.aload_n 0, 1) := by decide +kernel
theorem dX12_mixTable_123 : decode cX12_mixTable 123 = .ok (.getfield 30, 3) := by decide +kernel
theorem dX12_mixTable_126 : decode cX12_mixTable 126 = .ok (.bipush 64, 2) := by decide +kernel
theorem dX12_mixTable_128 : decode cX12_mixTable 128 = .ok (.iload_n 1, 1) := by decide +kernel
theorem dX12_mixTable_129 : decode cX12_mixTable 129 = .ok (.imul, 1) := by decide +kernel
theorem dX12_mixTable_130 : decode cX12_mixTable 130 = .ok (.iload_n 2, 1) := by decide +kernel
theorem dX12_mixTable_131 : decode cX12_mixTable 131 = .ok (.iadd, 1) := by decide +kernel
theorem dX12_mixTable_132 : decode cX12_mixTable 132 = .ok (.iaload, 1) := by decide +kernel
theorem dX12_mixTable_133 : decode cX12_mixTable 133 = .ok (.i2l, 1) := by decide +kernel
theorem dX12_mixTable_134 : decode cX12_mixTable 134 = .ok (.invokevirtual 339, 3) := by decide +kernel
theorem dX12_mixTable_137 : decode cX12_mixTable 137 = .ok (.iinc 2 1, 3) := by decide +kernel
theorem dX12_mixTable_140 : decode cX12_mixTable 140 = .ok (.goto (-29), 3) := by decide +kernel
theorem dX12_mixTable_143 : decode cX12_mixTable 143 = .ok (.iinc 1 1, 3) := by decide +kernel
theorem dX12_mixTable_146 : decode cX12_mixTable 146 = .ok (.goto (-78), 3) := by decide +kernel
theorem dX12_mixTable_149 : decode cX12_mixTable 149 = .ok (.return_, 1) := by decide +kernel
theorem dX12_digest_0 : decode cX12_digest 0 = .ok (.aload_n 0, 1) := by decide +kernel
theorem dX12_digest_1 : decode cX12_digest 1 = .ok (.ldc2_w 345, 3) := by decide +kernel
theorem dX12_digest_4 : decode cX12_digest 4 = .ok (.putfield 335, 3) := by decide +kernel
theorem dX12_digest_7 : decode cX12_digest 7 = .ok (.aload_n 0, 1) := by decide +kernel
theorem dX12_digest_8 : decode cX12_digest 8 = .ok (.invokevirtual 347, 3) := by decide +kernel
theorem dX12_digest_11 : decode cX12_digest 11 = .ok (.iconst 0, 1) := by decide +kernel
theorem dX12_digest_12 : decode cX12_digest 12 = .ok (.istore_n 1, 1) := by decide +kernel
theorem dX12_digest_13 : decode cX12_digest 13 = .ok (.iload_n 1, 1) := by decide +kernel
theorem dX12_digest_14 : decode cX12_digest 14 = .ok (.aload_n 0, 1) := by decide +kernel
theorem dX12_digest_15 : decode cX12_digest 15 = .ok (.getfield 191, 3) := by decide +kernel
theorem dX12_digest_18 : decode cX12_digest 18 = .ok (.if_icmp .ge 50, 3) := by decide +kernel
theorem dX12_digest_21 : decode cX12_digest 21 = .ok (.iconst 0, 1) := by decide +kernel
theorem dX12_digest_22 : decode cX12_digest 22 = .ok (.istore_n 2, 1) := by decide +kernel
theorem dX12_digest_23 : decode cX12_digest 23 = .ok (.iload_n 2, 1) := by decide +kernel
theorem dX12_digest_24 : decode cX12_digest 24 = .ok (.bipush 8, 2) := by decide +kernel
theorem dX12_digest_26 : decode cX12_digest 26 = .ok (.if_icmp .ge 25, 3) := by decide +kernel
theorem dX12_digest_29 : decode cX12_digest 29 = .ok (.aload_n 0, 1) := by decide +kernel
theorem dX12_digest_30 : decode cX12_digest 30 = .ok (.aload_n 0, 1) := by decide +kernel
theorem dX12_digest_31 : decode cX12_digest 31 = .ok (.getfield 46, 3) := by decide +kernel
theorem dX12_digest_34 : decode cX12_digest 34 = .ok (.bipush 8, 2) := by decide +kernel
theorem dX12_digest_36 : decode cX12_digest 36 = .ok (.iload_n 1, 1) := by decide +kernel
theorem dX12_digest_37 : decode cX12_digest 37 = .ok (.imul, 1) := by decide +kernel
theorem dX12_digest_38 : decode cX12_digest 38 = .ok (.iload_n 2, 1) := by decide +kernel
theorem dX12_digest_39 : decode cX12_digest 39 = .ok (.iadd, 1) := by decide +kernel
theorem dX12_digest_40 : decode cX12_digest 40 = .ok (.iaload, 1) := by decide +kernel
theorem dX12_digest_41 : decode cX12_digest 41 = .ok (.i2l, 1) := by decide +kernel
theorem dX12_digest_42 : decode cX12_digest 42 = .ok (.invokevirtual 339, 3) := by decide +kernel
theorem dX12_digest_45 : decode cX12_digest 45 = .ok (.iinc 2 1, 3) := by decide +kernel
theorem dX12_digest_48 : decode cX12_digest 48 = .ok (.goto (-25), 3) := by decide +kernel
theorem dX12_digest_51 : decode cX12_digest 51 = .ok (.aload_n 0, 1) := by decide +kernel
theorem dX12_digest_52 : decode cX12_digest 52 = .ok (.aload_n 0, 1) := by decide +kernel
theorem dX12_digest_53 : decode cX12_digest 53 = .ok (.getfield 55, 3) := by decide +kernel
theorem dX12_digest_56 : decode cX12_digest 56 = .ok (.iload_n 1, 1) := by decide +kernel
theorem dX12_digest_57 : decode cX12_digest 57 = .ok (.iaload, 1) := by decide +kernel
theorem dX12_digest_58 : decode cX12_digest 58 = .ok (.i2l, 1) := by decide +kernel
theorem dX12_digest_59 : decode cX12_digest 59 = .ok (.invokevirtual 339, 3) := by decide +kernel
theorem dX12_digest_62 : decode cX12_digest 62 = .ok (.iinc 1 1, 3) := by decide +kernel
theorem dX12_digest_65 : decode cX12_digest 65 = .ok (.goto (-52), 3) := by decide +kernel
theorem dX12_digest_68 : decode cX12_digest 68 = .ok (.aload_n 0, 1) := by decide +kernel
theorem dX12_digest_69 : decode cX12_digest 69 = .ok (.aload_n 0, 1) := by decide +kernel
theorem dX12_digest_70 : decode cX12_digest 70 = .ok (.getfield 281, 3) := by decide +kernel
theorem dX12_digest_73 : decode cX12_digest 73 = .ok (.i2l, 1) := by decide +kernel
theorem dX12_digest_74 : decode cX12_digest 74 = .ok (.invokevirtual 339, 3) := by decide +kernel
theorem dX12_digest_77 : decode cX12_digest 77 = .ok (.iconst 0, 1) := by decide +kernel
theorem dX12_digest_78 : decode cX12_digest 78 = .ok (.istore_n 1, 1) := by decide +kernel
theorem dX12_digest_79 : decode cX12_digest 79 = .ok (.iload_n 1, 1) := by decide +kernel
theorem dX12_digest_80 : decode cX12_digest 80 = .ok (.iconst 4, 1) := by decide +kernel
theorem dX12_digest_81 : decode cX12_digest 81 = .ok (.if_icmp .ge 58, 3) := by decide +kernel
theorem dX12_digest_84 : decode cX12_digest 84 = .ok (.iconst 0, 1) := by decide +kernel
theorem dX12_digest_85 : decode cX12_digest 85 = .ok (.istore_n 2, 1) := by decide +kernel
theorem dX12_digest_86 : decode cX12_digest 86 = .ok (.iload_n 2, 1) := by decide +kernel
theorem dX12_digest_87 : decode cX12_digest 87 = .ok (.iconst 4, 1) := by decide +kernel
theorem dX12_digest_88 : decode cX12_digest 88 = .ok (.if_icmp .ge 45, 3) := by decide +kernel
theorem dX12_digest_91 : decode cX12_digest 91 = .ok (.aload_n 0, 1) := by decide +kernel
theorem dX12_digest_92 : decode cX12_digest 92 = .ok (.aload_n 0, 1) := by decide +kernel
theorem dX12_digest_93 : decode cX12_digest 93 = .ok (.iload_n 1, 1) := by decide +kernel
theorem dX12_digest_94 : decode cX12_digest 94 = .ok (.iload_n 2, 1) := by decide +kernel
theorem dX12_digest_95 : decode cX12_digest 95 = .ok (.iconst 0, 1) := by decide +kernel
theorem dX12_digest_96 : decode cX12_digest 96 = .ok (.invokevirtual 305, 3) := by decide +kernel
theorem dX12_digest_99 : decode cX12_digest 99 = .ok (.i2l, 1) := by decide +kernel
theorem dX12_digest_100 : decode cX12_digest 100 = .ok (.invokevirtual 339, 3) := by decide +kernel
theorem dX12_digest_103 : decode cX12_digest 103 = .ok (.aload_n 0, 1) := by decide +kernel
theorem dX12_digest_104 : decode cX12_digest 104 = .ok (.aload_n 0, 1) := by decide +kernel
theorem dX12_digest_105 : decode cX12_digest 105 = .ok (.iload_n 1, 1) := by decide +kernel
theorem dX12_digest_106 : decode cX12_digest 106 = .ok (.iload_n 2, 1) := by decide +kernel
theorem dX12_digest_107 : decode cX12_digest 107 = .ok (.iconst 1, 1) := by decide +kernel
theorem dX12_digest_108 : decode cX12_digest 108 = .ok (.invokevirtual 305, 3) := by decide +kernel
theorem dX12_digest_111 : decode cX12_digest 111 = .ok (.i2l, 1) := by decide +kernel
theorem dX12_digest_112 : decode cX12_digest 112 = .ok (.invokevirtual 339, 3) := by decide +kernel
theorem dX12_digest_115 : decode cX12_digest 115 = .ok (.aload_n 0, 1) := by decide +kernel
theorem dX12_digest_116 : decode cX12_digest 116 = .ok (.aload_n 0, 1) := by decide +kernel
theorem dX12_digest_117 : decode cX12_digest 117 = .ok (.iload_n 1, 1) := by decide +kernel
theorem dX12_digest_118 : decode cX12_digest 118 = .ok (.iload_n 2, 1) := by decide +kernel
theorem dX12_digest_119 : decode cX12_digest 119 = .ok (.iconst 2, 1) := by decide +kernel
theorem dX12_digest_120 : decode cX12_digest 120 = .ok (.invokevirtual 305, 3) := by decide +kernel
theorem dX12_digest_123 : decode cX12_digest 123 = .ok (.i2l, 1) := by decide +kernel
theorem dX12_digest_124 : decode cX12_digest 124 = .ok (.invokevirtual 339, 3) := by decide +kernel
theorem dX12_digest_127 : decode cX12_digest 127 = .ok (.iinc 2 1, 3) := by decide +kernel
theorem dX12_digest_130 : decode cX12_digest 130 = .ok (.goto (-44), 3) := by decide +kernel
theorem dX12_digest_133 : decode cX12_digest 133 = .ok (.iinc 1 1, 3) := by decide +kernel
theorem dX12_digest_136 : decode cX12_digest 136 = .ok (.goto (-57), 3) := by decide +kernel
theorem dX12_digest_139 : decode cX12_digest 139 = .ok (.iconst 0, 1) := by decide +kernel
theorem dX12_digest_140 : decode cX12_digest 140 = .ok (.istore_n 1, 1) := by decide +kernel
theorem dX12_digest_141 : decode cX12_digest 141 = .ok (.iload_n 1, 1) := by decide +kernel
theorem dX12_digest_142 : decode cX12_digest 142 = .ok (.aload_n 0, 1) := by decide +kernel
theorem dX12_digest_143 : decode cX12_digest 143 = .ok (.getfield 168, 3) := by decide +kernel
theorem dX12_digest_146 : decode cX12_digest 146 = .ok (.if_icmp .ge 20, 3) := by decide +kernel
theorem dX12_digest_149 : decode cX12_digest 149 = .ok (.aload_n 0, 1) := by decide +kernel
theorem dX12_digest_150 : decode cX12_digest 150 = .ok (.aload_n 0, 1) := by decide +kernel
theorem dX12_digest_151 : decode cX12_digest 151 = .ok (.getfield 42, 3) := by decide +kernel
theorem dX12_digest_154 : decode cX12_digest 154 = .ok (.iload_n 1, 1) := by decide +kernel
theorem dX12_digest_155 : decode cX12_digest 155 = .ok (.baload, 1) := by decide +kernel
theorem dX12_digest_156 : decode cX12_digest 156 = .ok (.i2l, 1) := by decide +kernel
theorem dX12_digest_157 : decode cX12_digest 157 = .ok (.invokevirtual 339, 3) := by decide +kernel
theorem dX12_digest_160 : decode cX12_digest 160 = .ok (.iinc 1 1, 3) := by decide +kernel
theorem dX12_digest_163 : decode cX12_digest 163 = .ok (.goto (-22), 3) := by decide +kernel
theorem dX12_digest_166 : decode cX12_digest 166 = .ok (.iconst 0, 1) := by decide +kernel
theorem dX12_digest_167 : decode cX12_digest 167 = .ok (.istore_n 1, 1) := by decide +kernel
theorem dX12_digest_168 : decode cX12_digest 168 = .ok (.iload_n 1, 1) := by decide +kernel
theorem dX12_digest_169 : decode cX12_digest 169 = .ok (.bipush 9, 2) := by decide +kernel
theorem dX12_digest_171 : decode cX12_digest 171 = .ok (.if_icmp .ge 19, 3) := by decide +kernel
theorem dX12_digest_174 : decode cX12_digest 174 = .ok (.aload_n 0, 1) := by decide +kernel
theorem dX12_digest_175 : decode cX12_digest 175 = .ok (.aload_n 0, 1) := by decide +kernel
theorem dX12_digest_176 : decode cX12_digest 176 = .ok (.iload_n 1, 1) := by decide +kernel
theorem dX12_digest_177 : decode cX12_digest 177 = .ok (.invokevirtual 330, 3) := by decide +kernel
theorem dX12_digest_180 : decode cX12_digest 180 = .ok (.i2l, 1) := by decide +kernel
theorem dX12_digest_181 : decode cX12_digest 181 = .ok (.invokevirtual 339, 3) := by decide +kernel
theorem dX12_digest_184 : decode cX12_digest 184 = .ok (.iinc 1 1, 3) := by decide +kernel
theorem dX12_digest_187 : decode cX12_digest 187 = .ok (.goto (-19), 3) := by decide +kernel
theorem dX12_digest_190 : decode cX12_digest 190 = .ok (.aload_n 0, 1) := by decide +kernel
theorem dX12_digest_191 : decode cX12_digest 191 = .ok (.getfield 335, 3) := by decide +kernel
theorem dX12_digest_194 : decode cX12_digest 194 = .ok (.lreturn, 1) := by decide +kernel
theorem dJ6_bitCount_0f7a4_0 : decode cJ6_bitCount_0f7a4 0 = .ok (.iload_n 0, 1) := by decide +kernel
theorem dJ6_bitCount_0f7a4_1 : decode cJ6_bitCount_0f7a4 1 = .ok (.iload_n 0, 1) := by decide +kernel
theorem dJ6_bitCount_0f7a4_2 : decode cJ6_bitCount_0f7a4 2 = .ok (.iconst 1, 1) := by decide +kernel
theorem dJ6_bitCount_0f7a4_3 : decode cJ6_bitCount_0f7a4 3 = .ok (.iushr, 1) := by decide +kernel
theorem dJ6_bitCount_0f7a4_4 : decode cJ6_bitCount_0f7a4 4 = .ok (.ldc_w 265, 3) := by decide +kernel
theorem dJ6_bitCount_0f7a4_7 : decode cJ6_bitCount_0f7a4 7 = .ok (.iand, 1) := by decide +kernel
theorem dJ6_bitCount_0f7a4_8 : decode cJ6_bitCount_0f7a4 8 = .ok (.isub, 1) := by decide +kernel
theorem dJ6_bitCount_0f7a4_9 : decode cJ6_bitCount_0f7a4 9 = .ok (.istore_n 0, 1) := by decide +kernel
theorem dJ6_bitCount_0f7a4_10 : decode cJ6_bitCount_0f7a4 10 = .ok (.iload_n 0, 1) := by decide +kernel
theorem dJ6_bitCount_0f7a4_11 : decode cJ6_bitCount_0f7a4 11 = .ok (.ldc_w 266, 3) := by decide +kernel
theorem dJ6_bitCount_0f7a4_14 : decode cJ6_bitCount_0f7a4 14 = .ok (.iand, 1) := by decide +kernel
theorem dJ6_bitCount_0f7a4_15 : decode cJ6_bitCount_0f7a4 15 = .ok (.iload_n 0, 1) := by decide +kernel
theorem dJ6_bitCount_0f7a4_16 : decode cJ6_bitCount_0f7a4 16 = .ok (.iconst 2, 1) := by decide +kernel
theorem dJ6_bitCount_0f7a4_17 : decode cJ6_bitCount_0f7a4 17 = .ok (.iushr, 1) := by decide +kernel
theorem dJ6_bitCount_0f7a4_18 : decode cJ6_bitCount_0f7a4 18 = .ok (.ldc_w 266, 3) := by decide +kernel
theorem dJ6_bitCount_0f7a4_21 : decode cJ6_bitCount_0f7a4 21 = .ok (.iand, 1) := by decide +kernel
theorem dJ6_bitCount_0f7a4_22 : decode cJ6_bitCount_0f7a4 22 = .ok (.iadd, 1) := by decide +kernel
theorem dJ6_bitCount_0f7a4_23 : decode cJ6_bitCount_0f7a4 23 = .ok (.istore_n 0, 1) := by decide +kernel
theorem dJ6_bitCount_0f7a4_24 : decode cJ6_bitCount_0f7a4 24 = .ok (.iload_n 0, 1) := by decide +kernel
theorem dJ6_bitCount_0f7a4_25 : decode cJ6_bitCount_0f7a4 25 = .ok (.iload_n 0, 1) := by decide +kernel
theorem dJ6_bitCount_0f7a4_26 : decode cJ6_bitCount_0f7a4 26 = .ok (.iconst 4, 1) := by decide +kernel
theorem dJ6_bitCount_0f7a4_27 : decode cJ6_bitCount_0f7a4 27 = .ok (.iushr, 1) := by decide +kernel
theorem dJ6_bitCount_0f7a4_28 : decode cJ6_bitCount_0f7a4 28 = .ok (.iadd, 1) := by decide +kernel
theorem dJ6_bitCount_0f7a4_29 : decode cJ6_bitCount_0f7a4 29 = .ok (.ldc_w 267, 3) := by decide +kernel
theorem dJ6_bitCount_0f7a4_32 : decode cJ6_bitCount_0f7a4 32 = .ok (.iand, 1) := by decide +kernel
theorem dJ6_bitCount_0f7a4_33 : decode cJ6_bitCount_0f7a4 33 = .ok (.istore_n 0, 1) := by decide +kernel
theorem dJ6_bitCount_0f7a4_34 : decode cJ6_bitCount_0f7a4 34 = .ok (.iload_n 0, 1) := by decide +kernel
theorem dJ6_bitCount_0f7a4_35 : decode cJ6_bitCount_0f7a4 35 = .ok (.iload_n 0, 1) := by decide +kernel
theorem dJ6_bitCount_0f7a4_36 : decode cJ6_bitCount_0f7a4 36 = .ok (.bipush 8, 2) := by decide +kernel
theorem dJ6_bitCount_0f7a4_38 : decode cJ6_bitCount_0f7a4 38 = .ok (.iushr, 1) := by decide +kernel
theorem dJ6_bitCount_0f7a4_39 : decode cJ6_bitCount_0f7a4 39 = .ok (.iadd, 1) := by decide +kernel
theorem dJ6_bitCount_0f7a4_40 : decode cJ6_bitCount_0f7a4 40 = .ok (.istore_n 0, 1) := by decide +kernel
theorem dJ6_bitCount_0f7a4_41 : decode cJ6_bitCount_0f7a4 41 = .ok (.iload_n 0, 1) := by decide +kernel
theorem dJ6_bitCount_0f7a4_42 : decode cJ6_bitCount_0f7a4 42 = .ok (.iload_n 0, 1) := by decide +kernel
theorem dJ6_bitCount_0f7a4_43 : decode cJ6_bitCount_0f7a4 43 = .ok (.bipush 16, 2) := by decide +kernel
theorem dJ6_bitCount_0f7a4_45 : decode cJ6_bitCount_0f7a4 45 = .ok (.iushr, 1) := by decide +kernel
theorem dJ6_bitCount_0f7a4_46 : decode cJ6_bitCount_0f7a4 46 = .ok (.iadd, 1) := by decide +kernel
theorem dJ6_bitCount_0f7a4_47 : decode cJ6_bitCount_0f7a4 47 = .ok (.istore_n 0, 1) := by decide +kernel
theorem dJ6_bitCount_0f7a4_48 : decode cJ6_bitCount_0f7a4 48 = .ok (.iload_n 0, 1) := by decide +kernel
theorem dJ6_bitCount_0f7a4_49 : decode cJ6_bitCount_0f7a4 49 = .ok (.bipush 63, 2) := by decide +kernel
theorem dJ6_bitCount_0f7a4_51 : decode cJ6_bitCount_0f7a4 51 = .ok (.iand, 1) := by decide +kernel
theorem dJ6_bitCount_0f7a4_52 : decode cJ6_bitCount_0f7a4 52 = .ok (.ireturn, 1) := by decide +kernel
theorem dJ13_bitCount_95d88_0 : decode cJ13_bitCount_95d88 0 = .ok (.lload_n 0, 1) := by decide +kernel
theorem dJ13_bitCount_95d88_1 : decode cJ13_bitCount_95d88 1 = .ok (.lload_n 0, 1) := by decide +kernel
theorem dJ13_bitCount_95d88_2 : decode cJ13_bitCount_95d88 2 = .ok (.iconst 1, 1) := by decide +kernel
theorem dJ13_bitCount_95d88_3 : decode cJ13_bitCount_95d88 3 = .ok (.lushr, 1) := by decide +kernel
theorem dJ13_bitCount_95d88_4 : decode cJ13_bitCount_95d88 4 = .ok (.ldc2_w 314, 3) := by decide +kernel
theorem dJ13_bitCount_95d88_7 : decode cJ13_bitCount_95d88 7 = .ok (.land, 1) := by decide +kernel
theorem dJ13_bitCount_95d88_8 : decode cJ13_bitCount_95d88 8 = .ok (.lsub, 1) := by decide +kernel
theorem dJ13_bitCount_95d88_9 : decode cJ13_bitCount_95d88 9 = .ok (.lstore_n 0, 1) := by decide +kernel
theorem dJ13_bitCount_95d88_10 : decode cJ13_bitCount_95d88 10 = .ok (.lload_n 0, 1) := by decide +kernel
theorem dJ13_bitCount_95d88_11 : decode cJ13_bitCount_95d88 11 = .ok (.ldc2_w 316, 3) := by decide +kernel
theorem dJ13_bitCount_95d88_14 : decode cJ13_bitCount_95d88 14 = .ok (.land, 1) := by decide +kernel
theorem dJ13_bitCount_95d88_15 : decode cJ13_bitCount_95d88 15 = .ok (.lload_n 0, 1) := by decide +kernel
theorem dJ13_bitCount_95d88_16 : decode cJ13_bitCount_95d88 16 = .ok (.iconst 2, 1) := by decide +kernel
theorem dJ13_bitCount_95d88_17 : decode cJ13_bitCount_95d88 17 = .ok (.lushr, 1) := by decide +kernel
theorem dJ13_bitCount_95d88_18 : decode cJ13_bitCount_95d88 18 = .ok (.ldc2_w 316, 3) := by decide +kernel
theorem dJ13_bitCount_95d88_21 : decode cJ13_bitCount_95d88 21 = .ok (.land, 1) := by decide +kernel
theorem dJ13_bitCount_95d88_22 : decode cJ13_bitCount_95d88 22 = .ok (.ladd, 1) := by decide +kernel
theorem dJ13_bitCount_95d88_23 : decode cJ13_bitCount_95d88 23 = .ok (.lstore_n 0, 1) := by decide +kernel
theorem dJ13_bitCount_95d88_24 : decode cJ13_bitCount_95d88 24 = .ok (.lload_n 0, 1) := by decide +kernel
theorem dJ13_bitCount_95d88_25 : decode cJ13_bitCount_95d88 25 = .ok (.lload_n 0, 1) := by decide +kernel
theorem dJ13_bitCount_95d88_26 : decode cJ13_bitCount_95d88 26 = .ok (.iconst 4, 1) := by decide +kernel
theorem dJ13_bitCount_95d88_27 : decode cJ13_bitCount_95d88 27 = .ok (.lushr, 1) := by decide +kernel
theorem dJ13_bitCount_95d88_28 : decode cJ13_bitCount_95d88 28 = .ok (.ladd, 1) := by decide +kernel
theorem dJ13_bitCount_95d88_29 : decode cJ13_bitCount_95d88 29 = .ok (.ldc2_w 318, 3) := by decide +kernel
theorem dJ13_bitCount_95d88_32 : decode cJ13_bitCount_95d88 32 = .ok (.land, 1) := by decide +kernel
theorem dJ13_bitCount_95d88_33 : decode cJ13_bitCount_95d88 33 = .ok (.lstore_n 0, 1) := by decide +kernel
theorem dJ13_bitCount_95d88_34 : decode cJ13_bitCount_95d88 34 = .ok (.lload_n 0, 1) := by decide +kernel
theorem dJ13_bitCount_95d88_35 : decode cJ13_bitCount_95d88 35 = .ok (.lload_n 0, 1) := by decide +kernel
theorem dJ13_bitCount_95d88_36 : decode cJ13_bitCount_95d88 36 = .ok (.bipush 8, 2) := by decide +kernel
theorem dJ13_bitCount_95d88_38 : decode cJ13_bitCount_95d88 38 = .ok (.lushr, 1) := by decide +kernel
theorem dJ13_bitCount_95d88_39 : decode cJ13_bitCount_95d88 39 = .ok (.ladd, 1) := by decide +kernel
theorem dJ13_bitCount_95d88_40 : decode cJ13_bitCount_95d88 40 = .ok (.lstore_n 0, 1) := by decide +kernel
theorem dJ13_bitCount_95d88_41 : decode cJ13_bitCount_95d88 41 = .ok (.lload_n 0, 1) := by decide +kernel
theorem dJ13_bitCount_95d88_42 : decode cJ13_bitCount_95d88 42 = .ok (.lload_n 0, 1) := by decide +kernel
theorem dJ13_bitCount_95d88_43 : decode cJ13_bitCount_95d88 43 = .ok (.bipush 16, 2) := by decide +kernel
theorem dJ13_bitCount_95d88_45 : decode cJ13_bitCount_95d88 45 = .ok (.lushr, 1) := by decide +kernel
theorem dJ13_bitCount_95d88_46 : decode cJ13_bitCount_95d88 46 = .ok (.ladd, 1) := by decide +kernel
theorem dJ13_bitCount_95d88_47 : decode cJ13_bitCount_95d88 47 = .ok (.lstore_n 0, 1) := by decide +kernel
theorem dJ13_bitCount_95d88_48 : decode cJ13_bitCount_95d88 48 = .ok (.lload_n 0, 1) := by decide +kernel
theorem dJ13_bitCount_95d88_49 : decode cJ13_bitCount_95d88 49 = .ok (.lload_n 0, 1) := by decide +kernel
theorem dJ13_bitCount_95d88_50 : decode cJ13_bitCount_95d88 50 = .ok (.bipush 32, 2) := by decide +kernel
theorem dJ13_bitCount_95d88_52 : decode cJ13_bitCount_95d88 52 = .ok (.lushr, 1) := by decide +kernel
theorem dJ13_bitCount_95d88_53 : decode cJ13_bitCount_95d88 53 = .ok (.ladd, 1) := by decide +kernel
theorem dJ13_bitCount_95d88_54 : decode cJ13_bitCount_95d88 54 = .ok (.lstore_n 0, 1) := by decide +kernel
theorem dJ13_bitCount_95d88_55 : decode cJ13_bitCount_95d88 55 = .ok (.lload_n 0, 1) := by decide +kernel
theorem dJ13_bitCount_95d88_56 : decode cJ13_bitCount_95d88 56 = .ok (.l2i, 1) := by decide +kernel
theorem dJ13_bitCount_95d88_57 : decode cJ13_bitCount_95d88 57 = .ok (.bipush 127, 2) := by decide +kernel
theorem dJ13_bitCount_95d88_59 : decode cJ13_bitCount_95d88 59 = .ok (.iand, 1) := by decide +kernel
theorem dJ13_bitCount_95d88_60 : decode cJ13_bitCount_95d88 60 = .ok (.ireturn, 1) := by decide +kernel
theorem dJ9_max_7cf53_0 : decode cJ9_max_7cf53 0 = .ok (.iload_n 0, 1) := by decide +kernel
theorem dJ9_max_7cf53_1 : decode cJ9_max_7cf53 1 = .ok (.iload_n 1, 1) := by decide +kernel
theorem dJ9_max_7cf53_2 : decode cJ9_max_7cf53 2 = .ok (.if_icmp .lt 7, 3) := by decide +kernel
theorem dJ9_max_7cf53_5 : decode cJ9_max_7cf53 5 = .ok (.iload_n 0, 1) := by decide +kernel
theorem dJ9_max_7cf53_6 : decode cJ9_max_7cf53 6 = .ok (.goto 4, 3) := by decide +kernel
theorem dJ9_max_7cf53_9 : decode cJ9_max_7cf53 9 = .ok (.iload_n 1, 1) := by decide +kernel
theorem dJ9_max_7cf53_10 : decode cJ9_max_7cf53 10 = .ok (.ireturn, 1) := by decide +kernel
theorem dJ9_min_7cf53_0 : decode cJ9_min_7cf53 0 = .ok (.iload_n 0, 1) := by decide +kernel
theorem dJ9_min_7cf53_1 : decode cJ9_min_7cf53 1 = .ok (.iload_n 1, 1) := by decide +kernel
theorem dJ9_min_7cf53_2 : decode cJ9_min_7cf53 2 = .ok (.if_icmp .gt 7, 3) := by decide +kernel
theorem dJ9_min_7cf53_5 : decode cJ9_min_7cf53 5 = .ok (.iload_n 0, 1) := by decide +kernel
theorem dJ9_min_7cf53_6 : decode cJ9_min_7cf53 6 = .ok (.goto 4, 3) := by decide +kernel
theorem dJ9_min_7cf53_9 : decode cJ9_min_7cf53 9 = .ok (.iload_n 1, 1) := by decide +kernel
theorem dJ9_min_7cf53_10 : decode cJ9_min_7cf53 10 = .ok (.ireturn, 1) := by decide +kernel
theorem dL_law_0 : decode cL_law 0 = .ok (.new 7, 3) := by decide +kernel
theorem dL_law_3 : decode cL_law 3 = .ok (.dup, 1) := by decide +kernel
theorem dL_law_4 : decode cL_law 4 = .ok (.invokespecial 9, 3) := by decide +kernel
theorem dL_law_7 : decode cL_law 7 = .ok (.astore_n 1, 1) := by decide +kernel
theorem dL_law_8 : decode cL_law 8 = .ok (.new 10, 3) := by decide +kernel
theorem dL_law_11 : decode cL_law 11 = .ok (.dup, 1) := by decide +kernel
theorem dL_law_12 : decode cL_law 12 = .ok (.invokespecial 12, 3) := by decide +kernel
theorem dL_law_15 : decode cL_law 15 = .ok (.astore_n 2, 1) := by decide +kernel
theorem dL_law_16 : decode cL_law 16 = .ok (.iconst 0, 1) := by decide +kernel
theorem dL_law_17 : decode cL_law 17 = .ok (.istore_n 3, 1) := by decide +kernel
theorem dL_law_18 : decode cL_law 18 = .ok (.iload_n 3, 1) := by decide +kernel
theorem dL_law_19 : decode cL_law 19 = .ok (.aload_n 0, 1) := by decide +kernel
theorem dL_law_20 : decode cL_law 20 = .ok (.arraylength, 1) := by decide +kernel
theorem dL_law_21 : decode cL_law 21 = .ok (.iconst 5, 1) := by decide +kernel
theorem dL_law_22 : decode cL_law 22 = .ok (.isub, 1) := by decide +kernel
theorem dL_law_23 : decode cL_law 23 = .ok (.if_icmp .gt 1335, 3) := by decide +kernel
theorem dL_law_26 : decode cL_law 26 = .ok (.aload_n 0, 1) := by decide +kernel
theorem dL_law_27 : decode cL_law 27 = .ok (.iload_n 3, 1) := by decide +kernel
theorem dL_law_28 : decode cL_law 28 = .ok (.iaload, 1) := by decide +kernel
theorem dL_law_29 : decode cL_law 29 = .ok (.bipush 63, 2) := by decide +kernel
theorem dL_law_31 : decode cL_law 31 = .ok (.iand, 1) := by decide +kernel
theorem dL_law_32 : decode cL_law 32 = .ok (.tableswitch 1320 0 38 #[172, 225, 268, 291, 334, 367, 390, 413, 436, 459, 492, 525, 558, 611, 624, 637, 650, 693, 726, 749, 782, 815, 848, 881, 904, 927, 960, 993, 1026, 1049, 1092, 1145, 1168, 1201, 1224, 1247, 1260, 1283, 1306], 172) := by decide +kernel
theorem dL_law_204 : decode cL_law 204 = .ok (.aload_n 1, 1) := by decide +kernel
theorem dL_law_205 : decode cL_law 205 = .ok (.aload_n 0, 1) := by decide +kernel
theorem dL_law_206 : decode cL_law 206 = .ok (.iload_n 3, 1) := by decide +kernel
theorem dL_law_207 : decode cL_law 207 = .ok (.iconst 1, 1) := by decide +kernel
theorem dL_law_208 : decode cL_law 208 = .ok (.iadd, 1) := by decide +kernel
theorem dL_law_209 : decode cL_law 209 = .ok (.iaload, 1) := by decide +kernel
theorem dL_law_210 : decode cL_law 210 = .ok (.aload_n 0, 1) := by decide +kernel
theorem dL_law_211 : decode cL_law 211 = .ok (.iload_n 3, 1) := by decide +kernel
theorem dL_law_212 : decode cL_law 212 = .ok (.iconst 2, 1) := by decide +kernel
theorem dL_law_213 : decode cL_law 213 = .ok (.iadd, 1) := by decide +kernel
theorem dL_law_214 : decode cL_law 214 = .ok (.iaload, 1) := by decide +kernel
theorem dL_law_215 : decode cL_law 215 = .ok (.aload_n 0, 1) := by decide +kernel
theorem dL_law_216 : decode cL_law 216 = .ok (.iload_n 3, 1) := by decide +kernel
theorem dL_law_217 : decode cL_law 217 = .ok (.iconst 3, 1) := by decide +kernel
theorem dL_law_218 : decode cL_law 218 = .ok (.iadd, 1) := by decide +kernel
theorem dL_law_219 : decode cL_law 219 = .ok (.iaload, 1) := by decide +kernel
theorem dL_law_220 : decode cL_law 220 = .ok (.aload_n 0, 1) := by decide +kernel
theorem dL_law_221 : decode cL_law 221 = .ok (.iload_n 3, 1) := by decide +kernel
theorem dL_law_222 : decode cL_law 222 = .ok (.iconst 4, 1) := by decide +kernel
theorem dL_law_223 : decode cL_law 223 = .ok (.iadd, 1) := by decide +kernel
theorem dL_law_224 : decode cL_law 224 = .ok (.iaload, 1) := by decide +kernel
theorem dL_law_225 : decode cL_law 225 = .ok (.invokevirtual 13, 3) := by decide +kernel
theorem dL_law_228 : decode cL_law 228 = .ok (.aload_n 2, 1) := by decide +kernel
theorem dL_law_229 : decode cL_law 229 = .ok (.aload_n 0, 1) := by decide +kernel
theorem dL_law_230 : decode cL_law 230 = .ok (.iload_n 3, 1) := by decide +kernel
theorem dL_law_231 : decode cL_law 231 = .ok (.iconst 1, 1) := by decide +kernel
theorem dL_law_232 : decode cL_law 232 = .ok (.iadd, 1) := by decide +kernel
theorem dL_law_233 : decode cL_law 233 = .ok (.iaload, 1) := by decide +kernel
theorem dL_law_234 : decode cL_law 234 = .ok (.aload_n 0, 1) := by decide +kernel
theorem dL_law_235 : decode cL_law 235 = .ok (.iload_n 3, 1) := by decide +kernel
theorem dL_law_236 : decode cL_law 236 = .ok (.iconst 2, 1) := by decide +kernel
theorem dL_law_237 : decode cL_law 237 = .ok (.iadd, 1) := by decide +kernel
theorem dL_law_238 : decode cL_law 238 = .ok (.iaload, 1) := by decide +kernel
theorem dL_law_239 : decode cL_law 239 = .ok (.aload_n 0, 1) := by decide +kernel
theorem dL_law_240 : decode cL_law 240 = .ok (.iload_n 3, 1) := by decide +kernel
theorem dL_law_241 : decode cL_law 241 = .ok (.iconst 3, 1) := by decide +kernel
theorem dL_law_242 : decode cL_law 242 = .ok (.iadd, 1) := by decide +kernel
theorem dL_law_243 : decode cL_law 243 = .ok (.iaload, 1) := by decide +kernel
theorem dL_law_244 : decode cL_law 244 = .ok (.aload_n 0, 1) := by decide +kernel
theorem dL_law_245 : decode cL_law 245 = .ok (.iload_n 3, 1) := by decide +kernel
theorem dL_law_246 : decode cL_law 246 = .ok (.iconst 4, 1) := by decide +kernel
theorem dL_law_247 : decode cL_law 247 = .ok (.iadd, 1) := by decide +kernel
theorem dL_law_248 : decode cL_law 248 = .ok (.iaload, 1) := by decide +kernel
theorem dL_law_249 : decode cL_law 249 = .ok (.invokevirtual 17, 3) := by decide +kernel
theorem dL_law_252 : decode cL_law 252 = .ok (.if_icmp .eq 1100, 3) := by decide +kernel
theorem dL_law_255 : decode cL_law 255 = .ok (.iconst 0, 1) := by decide +kernel
theorem dL_law_256 : decode cL_law 256 = .ok (.ireturn, 1) := by decide +kernel
theorem dL_law_257 : decode cL_law 257 = .ok (.aload_n 1, 1) := by decide +kernel
theorem dL_law_258 : decode cL_law 258 = .ok (.aload_n 0, 1) := by decide +kernel
theorem dL_law_259 : decode cL_law 259 = .ok (.iload_n 3, 1) := by decide +kernel
theorem dL_law_260 : decode cL_law 260 = .ok (.iconst 1, 1) := by decide +kernel
theorem dL_law_261 : decode cL_law 261 = .ok (.iadd, 1) := by decide +kernel
theorem dL_law_262 : decode cL_law 262 = .ok (.iaload, 1) := by decide +kernel
theorem dL_law_263 : decode cL_law 263 = .ok (.aload_n 0, 1) := by decide +kernel
theorem dL_law_264 : decode cL_law 264 = .ok (.iload_n 3, 1) := by decide +kernel
theorem dL_law_265 : decode cL_law 265 = .ok (.iconst 2, 1) := by decide +kernel
theorem dL_law_266 : decode cL_law 266 = .ok (.iadd, 1) := by decide +kernel
theorem dL_law_267 : decode cL_law 267 = .ok (.iaload, 1) := by decide +kernel
theorem dL_law_268 : decode cL_law 268 = .ok (.aload_n 0, 1) := by decide +kernel
theorem dL_law_269 : decode cL_law 269 = .ok (.iload_n 3, 1) := by decide +kernel
theorem dL_law_270 : decode cL_law 270 = .ok (.iconst 3, 1) := by decide +kernel
theorem dL_law_271 : decode cL_law 271 = .ok (.iadd, 1) := by decide +kernel
theorem dL_law_272 : decode cL_law 272 = .ok (.iaload, 1) := by decide +kernel
theorem dL_law_273 : decode cL_law 273 = .ok (.invokevirtual 18, 3) := by decide +kernel
theorem dL_law_276 : decode cL_law 276 = .ok (.aload_n 2, 1) := by decide +kernel
theorem dL_law_277 : decode cL_law 277 = .ok (.aload_n 0, 1) := by decide +kernel
theorem dL_law_278 : decode cL_law 278 = .ok (.iload_n 3, 1) := by decide +kernel
theorem dL_law_279 : decode cL_law 279 = .ok (.iconst 1, 1) := by decide +kernel
theorem dL_law_280 : decode cL_law 280 = .ok (.iadd, 1) := by decide +kernel
theorem dL_law_281 : decode cL_law 281 = .ok (.iaload, 1) := by decide +kernel
theorem dL_law_282 : decode cL_law 282 = .ok (.aload_n 0, 1) := by decide +kernel
theorem dL_law_283 : decode cL_law 283 = .ok (.iload_n 3, 1) := by decide +kernel
theorem dL_law_284 : decode cL_law 284 = .ok (.iconst 2, 1) := by decide +kernel
theorem dL_law_285 : decode cL_law 285 = .ok (.iadd, 1) := by decide +kernel
theorem dL_law_286 : decode cL_law 286 = .ok (.iaload, 1) := by decide +kernel
theorem dL_law_287 : decode cL_law 287 = .ok (.aload_n 0, 1) := by decide +kernel
theorem dL_law_288 : decode cL_law 288 = .ok (.iload_n 3, 1) := by decide +kernel
theorem dL_law_289 : decode cL_law 289 = .ok (.iconst 3, 1) := by decide +kernel
theorem dL_law_290 : decode cL_law 290 = .ok (.iadd, 1) := by decide +kernel
theorem dL_law_291 : decode cL_law 291 = .ok (.iaload, 1) := by decide +kernel
theorem dL_law_292 : decode cL_law 292 = .ok (.invokevirtual 22, 3) := by decide +kernel
theorem dL_law_295 : decode cL_law 295 = .ok (.if_icmp .eq 1057, 3) := by decide +kernel
theorem dL_law_298 : decode cL_law 298 = .ok (.iconst 0, 1) := by decide +kernel
theorem dL_law_299 : decode cL_law 299 = .ok (.ireturn, 1) := by decide +kernel
theorem dL_law_300 : decode cL_law 300 = .ok (.aload_n 1, 1) := by decide +kernel
theorem dL_law_301 : decode cL_law 301 = .ok (.aload_n 0, 1) := by decide +kernel
theorem dL_law_302 : decode cL_law 302 = .ok (.iload_n 3, 1) := by decide +kernel
theorem dL_law_303 : decode cL_law 303 = .ok (.iconst 1, 1) := by decide +kernel
theorem dL_law_304 : decode cL_law 304 = .ok (.iadd, 1) := by decide +kernel
theorem dL_law_305 : decode cL_law 305 = .ok (.iaload, 1) := by decide +kernel
theorem dL_law_306 : decode cL_law 306 = .ok (.invokevirtual 23, 3) := by decide +kernel
theorem dL_law_309 : decode cL_law 309 = .ok (.aload_n 2, 1) := by decide +kernel
theorem dL_law_310 : decode cL_law 310 = .ok (.aload_n 0, 1) := by decide +kernel
theorem dL_law_311 : decode cL_law 311 = .ok (.iload_n 3, 1) := by decide +kernel
theorem dL_law_312 : decode cL_law 312 = .ok (.iconst 1, 1) := by decide +kernel
theorem dL_law_313 : decode cL_law 313 = .ok (.iadd, 1) := by decide +kernel
theorem dL_law_314 : decode cL_law 314 = .ok (.iaload, 1) := by decide +kernel
theorem dL_law_315 : decode cL_law 315 = .ok (.invokevirtual 27, 3) := by decide +kernel
theorem dL_law_318 : decode cL_law 318 = .ok (.if_icmp .eq 1034, 3) := by decide +kernel
theorem dL_law_321 : decode cL_law 321 = .ok (.iconst 0, 1) := by decide +kernel
theorem dL_law_322 : decode cL_law 322 = .ok (.ireturn, 1) := by decide +kernel
theorem dL_law_323 : decode cL_law 323 = .ok (.aload_n 1, 1) := by decide +kernel
theorem dL_law_324 : decode cL_law 324 = .ok (.aload_n 0, 1) := by decide +kernel
theorem dL_law_325 : decode cL_law 325 = .ok (.iload_n 3, 1) := by decide +kernel
theorem dL_law_326 : decode cL_law 326 = .ok (.iconst 1, 1) := by decide +kernel
theorem dL_law_327 : decode cL_law 327 = .ok (.iadd, 1) := by decide +kernel
theorem dL_law_328 : decode cL_law 328 = .ok (.iaload, 1) := by decide +kernel
theorem dL_law_329 : decode cL_law 329 = .ok (.aload_n 0, 1) := by decide +kernel
theorem dL_law_330 : decode cL_law 330 = .ok (.iload_n 3, 1) := by decide +kernel
theorem dL_law_331 : decode cL_law 331 = .ok (.iconst 2, 1) := by decide +kernel
theorem dL_law_332 : decode cL_law 332 = .ok (.iadd, 1) := by decide +kernel
theorem dL_law_333 : decode cL_law 333 = .ok (.iaload, 1) := by decide +kernel
theorem dL_law_334 : decode cL_law 334 = .ok (.aload_n 0, 1) := by decide +kernel
theorem dL_law_335 : decode cL_law 335 = .ok (.iload_n 3, 1) := by decide +kernel
theorem dL_law_336 : decode cL_law 336 = .ok (.iconst 3, 1) := by decide +kernel
theorem dL_law_337 : decode cL_law 337 = .ok (.iadd, 1) := by decide +kernel
theorem dL_law_338 : decode cL_law 338 = .ok (.iaload, 1) := by decide +kernel
theorem dL_law_339 : decode cL_law 339 = .ok (.invokevirtual 28, 3) := by decide +kernel
theorem dL_law_342 : decode cL_law 342 = .ok (.aload_n 2, 1) := by decide +kernel
theorem dL_law_343 : decode cL_law 343 = .ok (.aload_n 0, 1) := by decide +kernel
theorem dL_law_344 : decode cL_law 344 = .ok (.iload_n 3, 1) := by decide +kernel
theorem dL_law_345 : decode cL_law 345 = .ok (.iconst 1, 1) := by decide +kernel
theorem dL_law_346 : decode cL_law 346 = .ok (.iadd, 1) := by decide +kernel
theorem dL_law_347 : decode cL_law 347 = .ok (.iaload, 1) := by decide +kernel
theorem dL_law_348 : decode cL_law 348 = .ok (.aload_n 0, 1) := by decide +kernel
theorem dL_law_349 : decode cL_law 349 = .ok (.iload_n 3, 1) := by decide +kernel
theorem dL_law_350 : decode cL_law 350 = .ok (.iconst 2, 1) := by decide +kernel
theorem dL_law_351 : decode cL_law 351 = .ok (.iadd, 1) := by decide +kernel
theorem dL_law_352 : decode cL_law 352 = .ok (.iaload, 1) := by decide +kernel
theorem dL_law_353 : decode cL_law 353 = .ok (.aload_n 0, 1) := by decide +kernel
theorem dL_law_354 : decode cL_law 354 = .ok (.iload_n 3, 1) := by decide +kernel
theorem dL_law_355 : decode cL_law 355 = .ok (.iconst 3, 1) := by decide +kernel
theorem dL_law_356 : decode cL_law 356 = .ok (.iadd, 1) := by decide +kernel
theorem dL_law_357 : decode cL_law 357 = .ok (.iaload, 1) := by decide +kernel
theorem dL_law_358 : decode cL_law 358 = .ok (.invokevirtual 31, 3) := by decide +kernel
theorem dL_law_361 : decode cL_law 361 = .ok (.if_icmp .eq 991, 3) := by decide +kernel
theorem dL_law_364 : decode cL_law 364 = .ok (.iconst 0, 1) := by decide +kernel
theorem dL_law_365 : decode cL_law 365 = .ok (.ireturn, 1) := by decide +kernel
theorem dL_law_366 : decode cL_law 366 = .ok (.aload_n 1, 1) := by decide +kernel
theorem dL_law_367 : decode cL_law 367 = .ok (.aload_n 0, 1) := by decide +kernel
theorem dL_law_368 : decode cL_law 368 = .ok (.iload_n 3, 1) := by decide +kernel
theorem dL_law_369 : decode cL_law 369 = .ok (.iconst 1, 1) := by decide +kernel
theorem dL_law_370 : decode cL_law 370 = .ok (.iadd, 1) := by decide +kernel
theorem dL_law_371 : decode cL_law 371 = .ok (.iaload, 1) := by decide +kernel
theorem dL_law_372 : decode cL_law 372 = .ok (.aload_n 0, 1) := by decide +kernel
theorem dL_law_373 : decode cL_law 373 = .ok (.iload_n 3, 1) := by decide +kernel
theorem dL_law_374 : decode cL_law 374 = .ok (.iconst 2, 1) := by decide +kernel
theorem dL_law_375 : decode cL_law 375 = .ok (.iadd, 1) := by decide +kernel
theorem dL_law_376 : decode cL_law 376 = .ok (.iaload, 1) := by decide +kernel
theorem dL_law_377 : decode cL_law 377 = .ok (.invokevirtual 32, 3) := by decide +kernel
theorem dL_law_380 : decode cL_law 380 = .ok (.aload_n 2, 1) := by decide +kernel
theorem dL_law_381 : decode cL_law 381 = .ok (.aload_n 0, 1) := by decide +kernel
theorem dL_law_382 : decode cL_law 382 = .ok (.iload_n 3, 1) := by decide +kernel
theorem dL_law_383 : decode cL_law 383 = .ok (.iconst 1, 1) := by decide +kernel
theorem dL_law_384 : decode cL_law 384 = .ok (.iadd, 1) := by decide +kernel
theorem dL_law_385 : decode cL_law 385 = .ok (.iaload, 1) := by decide +kernel
theorem dL_law_386 : decode cL_law 386 = .ok (.aload_n 0, 1) := by decide +kernel
theorem dL_law_387 : decode cL_law 387 = .ok (.iload_n 3, 1) := by decide +kernel
theorem dL_law_388 : decode cL_law 388 = .ok (.iconst 2, 1) := by decide +kernel
theorem dL_law_389 : decode cL_law 389 = .ok (.iadd, 1) := by decide +kernel
theorem dL_law_390 : decode cL_law 390 = .ok (.iaload, 1) := by decide +kernel
theorem dL_law_391 : decode cL_law 391 = .ok (.invokevirtual 36, 3) := by decide +kernel
theorem dL_law_394 : decode cL_law 394 = .ok (.if_icmp .eq 958, 3) := by decide +kernel
theorem dL_law_397 : decode cL_law 397 = .ok (.iconst 0, 1) := by decide +kernel
theorem dL_law_398 : decode cL_law 398 = .ok (.ireturn, 1) := by decide +kernel
theorem dL_law_399 : decode cL_law 399 = .ok (.aload_n 1, 1) := by decide +kernel
theorem dL_law_400 : decode cL_law 400 = .ok (.aload_n 0, 1) := by decide +kernel
theorem dL_law_401 : decode cL_law 401 = .ok (.iload_n 3, 1) := by decide +kernel
theorem dL_law_402 : decode cL_law 402 = .ok (.iconst 1, 1) := by decide +kernel
theorem dL_law_403 : decode cL_law 403 = .ok (.iadd, 1) := by decide +kernel
theorem dL_law_404 : decode cL_law 404 = .ok (.iaload, 1) := by decide +kernel
theorem dL_law_405 : decode cL_law 405 = .ok (.invokevirtual 37, 3) := by decide +kernel
theorem dL_law_408 : decode cL_law 408 = .ok (.aload_n 2, 1) := by decide +kernel
theorem dL_law_409 : decode cL_law 409 = .ok (.aload_n 0, 1) := by decide +kernel
theorem dL_law_410 : decode cL_law 410 = .ok (.iload_n 3, 1) := by decide +kernel
theorem dL_law_411 : decode cL_law 411 = .ok (.iconst 1, 1) := by decide +kernel
theorem dL_law_412 : decode cL_law 412 = .ok (.iadd, 1) := by decide +kernel
theorem dL_law_413 : decode cL_law 413 = .ok (.iaload, 1) := by decide +kernel
theorem dL_law_414 : decode cL_law 414 = .ok (.invokevirtual 40, 3) := by decide +kernel
theorem dL_law_417 : decode cL_law 417 = .ok (.if_icmp .eq 935, 3) := by decide +kernel
theorem dL_law_420 : decode cL_law 420 = .ok (.iconst 0, 1) := by decide +kernel
theorem dL_law_421 : decode cL_law 421 = .ok (.ireturn, 1) := by decide +kernel
theorem dL_law_422 : decode cL_law 422 = .ok (.aload_n 1, 1) := by decide +kernel
theorem dL_law_423 : decode cL_law 423 = .ok (.aload_n 0, 1) := by decide +kernel
theorem dL_law_424 : decode cL_law 424 = .ok (.iload_n 3, 1) := by decide +kernel
theorem dL_law_425 : decode cL_law 425 = .ok (.iconst 1, 1) := by decide +kernel
theorem dL_law_426 : decode cL_law 426 = .ok (.iadd, 1) := by decide +kernel
theorem dL_law_427 : decode cL_law 427 = .ok (.iaload, 1) := by decide +kernel
theorem dL_law_428 : decode cL_law 428 = .ok (.invokevirtual 41, 3) := by decide +kernel
theorem dL_law_431 : decode cL_law 431 = .ok (.aload_n 2, 1) := by decide +kernel
theorem dL_law_432 : decode cL_law 432 = .ok (.aload_n 0, 1) := by decide +kernel
theorem dL_law_433 : decode cL_law 433 = .ok (.iload_n 3, 1) := by decide +kernel
theorem dL_law_434 : decode cL_law 434 = .ok (.iconst 1, 1) := by decide +kernel
theorem dL_law_435 : decode cL_law 435 = .ok (.iadd, 1) := by decide +kernel
theorem dL_law_436 : decode cL_law 436 = .ok (.iaload, 1) := by decide +kernel
theorem dL_law_437 : decode cL_law 437 = .ok (.invokevirtual 44, 3) := by decide +kernel
theorem dL_law_440 : decode cL_law 440 = .ok (.if_icmp .eq 912, 3) := by decide +kernel
theorem dL_law_443 : decode cL_law 443 = .ok (.iconst 0, 1) := by decide +kernel
theorem dL_law_444 : decode cL_law 444 = .ok (.ireturn, 1) := by decide +kernel
theorem dL_law_445 : decode cL_law 445 = .ok (.aload_n 1, 1) := by decide +kernel
theorem dL_law_446 : decode cL_law 446 = .ok (.aload_n 0, 1) := by decide +kernel
theorem dL_law_447 : decode cL_law 447 = .ok (.iload_n 3, 1) := by decide +kernel
theorem dL_law_448 : decode cL_law 448 = .ok (.iconst 1, 1) := by decide +kernel
theorem dL_law_449 : decode cL_law 449 = .ok (.iadd, 1) := by decide +kernel
theorem dL_law_450 : decode cL_law 450 = .ok (.iaload, 1) := by decide +kernel
theorem dL_law_451 : decode cL_law 451 = .ok (.invokevirtual 45, 3) := by decide +kernel
theorem dL_law_454 : decode cL_law 454 = .ok (.aload_n 2, 1) := by decide +kernel
theorem dL_law_455 : decode cL_law 455 = .ok (.aload_n 0, 1) := by decide +kernel
theorem dL_law_456 : decode cL_law 456 = .ok (.iload_n 3, 1) := by decide +kernel
theorem dL_law_457 : decode cL_law 457 = .ok (.iconst 1, 1) := by decide +kernel
theorem dL_law_458 : decode cL_law 458 = .ok (.iadd, 1) := by decide +kernel
theorem dL_law_459 : decode cL_law 459 = .ok (.iaload, 1) := by decide +kernel
theorem dL_law_460 : decode cL_law 460 = .ok (.invokevirtual 48, 3) := by decide +kernel
theorem dL_law_463 : decode cL_law 463 = .ok (.if_icmp .eq 889, 3) := by decide +kernel
theorem dL_law_466 : decode cL_law 466 = .ok (.iconst 0, 1) := by decide +kernel
theorem dL_law_467 : decode cL_law 467 = .ok (.ireturn, 1) := by decide +kernel
theorem dL_law_468 : decode cL_law 468 = .ok (.aload_n 1, 1) := by decide +kernel
theorem dL_law_469 : decode cL_law 469 = .ok (.aload_n 0, 1) := by decide +kernel
theorem dL_law_470 : decode cL_law 470 = .ok (.iload_n 3, 1) := by decide +kernel
theorem dL_law_471 : decode cL_law 471 = .ok (.iconst 1, 1) := by decide +kernel
theorem dL_law_472 : decode cL_law 472 = .ok (.iadd, 1) := by decide +kernel
theorem dL_law_473 : decode cL_law 473 = .ok (.iaload, 1) := by decide +kernel
theorem dL_law_474 : decode cL_law 474 = .ok (.invokevirtual 49, 3) := by decide +kernel
theorem dL_law_477 : decode cL_law 477 = .ok (.aload_n 2, 1) := by decide +kernel
theorem dL_law_478 : decode cL_law 478 = .ok (.aload_n 0, 1) := by decide +kernel
theorem dL_law_479 : decode cL_law 479 = .ok (.iload_n 3, 1) := by decide +kernel
theorem dL_law_480 : decode cL_law 480 = .ok (.iconst 1, 1) := by decide +kernel
theorem dL_law_481 : decode cL_law 481 = .ok (.iadd, 1) := by decide +kernel
theorem dL_law_482 : decode cL_law 482 = .ok (.iaload, 1) := by decide +kernel
theorem dL_law_483 : decode cL_law 483 = .ok (.invokevirtual 52, 3) := by decide +kernel
theorem dL_law_486 : decode cL_law 486 = .ok (.if_icmp .eq 866, 3) := by decide +kernel
theorem dL_law_489 : decode cL_law 489 = .ok (.iconst 0, 1) := by decide +kernel
theorem dL_law_490 : decode cL_law 490 = .ok (.ireturn, 1) := by decide +kernel
theorem dL_law_491 : decode cL_law 491 = .ok (.aload_n 1, 1) := by decide +kernel
theorem dL_law_492 : decode cL_law 492 = .ok (.aload_n 0, 1) := by decide +kernel
theorem dL_law_493 : decode cL_law 493 = .ok (.iload_n 3, 1) := by decide +kernel
theorem dL_law_494 : decode cL_law 494 = .ok (.iconst 1, 1) := by decide +kernel
theorem dL_law_495 : decode cL_law 495 = .ok (.iadd, 1) := by decide +kernel
theorem dL_law_496 : decode cL_law 496 = .ok (.iaload, 1) := by decide +kernel
theorem dL_law_497 : decode cL_law 497 = .ok (.aload_n 0, 1) := by decide +kernel
theorem dL_law_498 : decode cL_law 498 = .ok (.iload_n 3, 1) := by decide +kernel
theorem dL_law_499 : decode cL_law 499 = .ok (.iconst 2, 1) := by decide +kernel
theorem dL_law_500 : decode cL_law 500 = .ok (.iadd, 1) := by decide +kernel
theorem dL_law_501 : decode cL_law 501 = .ok (.iaload, 1) := by decide +kernel
theorem dL_law_502 : decode cL_law 502 = .ok (.invokevirtual 53, 3) := by decide +kernel
theorem dL_law_505 : decode cL_law 505 = .ok (.aload_n 2, 1) := by decide +kernel
theorem dL_law_506 : decode cL_law 506 = .ok (.aload_n 0, 1) := by decide +kernel
theorem dL_law_507 : decode cL_law 507 = .ok (.iload_n 3, 1) := by decide +kernel
theorem dL_law_508 : decode cL_law 508 = .ok (.iconst 1, 1) := by decide +kernel
theorem dL_law_509 : decode cL_law 509 = .ok (.iadd, 1) := by decide +kernel
theorem dL_law_510 : decode cL_law 510 = .ok (.iaload, 1) := by decide +kernel
theorem dL_law_511 : decode cL_law 511 = .ok (.aload_n 0, 1) := by decide +kernel
theorem dL_law_512 : decode cL_law 512 = .ok (.iload_n 3, 1) := by decide +kernel
theorem dL_law_513 : decode cL_law 513 = .ok (.iconst 2, 1) := by decide +kernel
theorem dL_law_514 : decode cL_law 514 = .ok (.iadd, 1) := by decide +kernel
theorem dL_law_515 : decode cL_law 515 = .ok (.iaload, 1) := by decide +kernel
theorem dL_law_516 : decode cL_law 516 = .ok (.invokevirtual 56, 3) := by decide +kernel
theorem dL_law_519 : decode cL_law 519 = .ok (.if_icmp .eq 833, 3) := by decide +kernel
theorem dL_law_522 : decode cL_law 522 = .ok (.iconst 0, 1) := by decide +kernel
theorem dL_law_523 : decode cL_law 523 = .ok (.ireturn, 1) := by decide +kernel
theorem dL_law_524 : decode cL_law 524 = .ok (.aload_n 1, 1) := by decide +kernel
theorem dL_law_525 : decode cL_law 525 = .ok (.aload_n 0, 1) := by decide +kernel
theorem dL_law_526 : decode cL_law 526 = .ok (.iload_n 3, 1) := by decide +kernel
theorem dL_law_527 : decode cL_law 527 = .ok (.iconst 1, 1) := by decide +kernel
theorem dL_law_528 : decode cL_law 528 = .ok (.iadd, 1) := by decide +kernel
theorem dL_law_529 : decode cL_law 529 = .ok (.iaload, 1) := by decide +kernel
theorem dL_law_530 : decode cL_law 530 = .ok (.aload_n 0, 1) := by decide +kernel
theorem dL_law_531 : decode cL_law 531 = .ok (.iload_n 3, 1) := by decide +kernel
theorem dL_law_532 : decode cL_law 532 = .ok (.iconst 2, 1) := by decide +kernel
theorem dL_law_533 : decode cL_law 533 = .ok (.iadd, 1) := by decide +kernel
theorem dL_law_534 : decode cL_law 534 = .ok (.iaload, 1) := by decide +kernel
theorem dL_law_535 : decode cL_law 535 = .ok (.invokevirtual 57, 3) := by decide +kernel
theorem dL_law_538 : decode cL_law 538 = .ok (.aload_n 2, 1) := by decide +kernel
theorem dL_law_539 : decode cL_law 539 = .ok (.aload_n 0, 1) := by decide +kernel
theorem dL_law_540 : decode cL_law 540 = .ok (.iload_n 3, 1) := by decide +kernel
theorem dL_law_541 : decode cL_law 541 = .ok (.iconst 1, 1) := by decide +kernel
theorem dL_law_542 : decode cL_law 542 = .ok (.iadd, 1) := by decide +kernel
theorem dL_law_543 : decode cL_law 543 = .ok (.iaload, 1) := by decide +kernel
theorem dL_law_544 : decode cL_law 544 = .ok (.aload_n 0, 1) := by decide +kernel
theorem dL_law_545 : decode cL_law 545 = .ok (.iload_n 3, 1) := by decide +kernel
theorem dL_law_546 : decode cL_law 546 = .ok (.iconst 2, 1) := by decide +kernel
theorem dL_law_547 : decode cL_law 547 = .ok (.iadd, 1) := by decide +kernel
theorem dL_law_548 : decode cL_law 548 = .ok (.iaload, 1) := by decide +kernel
theorem dL_law_549 : decode cL_law 549 = .ok (.invokevirtual 60, 3) := by decide +kernel
theorem dL_law_552 : decode cL_law 552 = .ok (.if_icmp .eq 800, 3) := by decide +kernel
theorem dL_law_555 : decode cL_law 555 = .ok (.iconst 0, 1) := by decide +kernel
theorem dL_law_556 : decode cL_law 556 = .ok (.ireturn, 1) := by decide +kernel
theorem dL_law_557 : decode cL_law 557 = .ok (.aload_n 1, 1) := by decide +kernel
theorem dL_law_558 : decode cL_law 558 = .ok (.aload_n 0, 1) := by decide +kernel
theorem dL_law_559 : decode cL_law 559 = .ok (.iload_n 3, 1) := by decide +kernel
theorem dL_law_560 : decode cL_law 560 = .ok (.iconst 1, 1) := by decide +kernel
theorem dL_law_561 : decode cL_law 561 = .ok (.iadd, 1) := by decide +kernel
theorem dL_law_562 : decode cL_law 562 = .ok (.iaload, 1) := by decide +kernel
theorem dL_law_563 : decode cL_law 563 = .ok (.aload_n 0, 1) := by decide +kernel
theorem dL_law_564 : decode cL_law 564 = .ok (.iload_n 3, 1) := by decide +kernel
theorem dL_law_565 : decode cL_law 565 = .ok (.iconst 2, 1) := by decide +kernel
theorem dL_law_566 : decode cL_law 566 = .ok (.iadd, 1) := by decide +kernel
theorem dL_law_567 : decode cL_law 567 = .ok (.iaload, 1) := by decide +kernel
theorem dL_law_568 : decode cL_law 568 = .ok (.invokevirtual 61, 3) := by decide +kernel
theorem dL_law_571 : decode cL_law 571 = .ok (.aload_n 2, 1) := by decide +kernel
theorem dL_law_572 : decode cL_law 572 = .ok (.aload_n 0, 1) := by decide +kernel
theorem dL_law_573 : decode cL_law 573 = .ok (.iload_n 3, 1) := by decide +kernel
theorem dL_law_574 : decode cL_law 574 = .ok (.iconst 1, 1) := by decide +kernel
theorem dL_law_575 : decode cL_law 575 = .ok (.iadd, 1) := by decide +kernel
theorem dL_law_576 : decode cL_law 576 = .ok (.iaload, 1) := by decide +kernel
theorem dL_law_577 : decode cL_law 577 = .ok (.aload_n 0, 1) := by decide +kernel
theorem dL_law_578 : decode cL_law 578 = .ok (.iload_n 3, 1) := by decide +kernel
theorem dL_law_579 : decode cL_law 579 = .ok (.iconst 2, 1) := by decide +kernel
theorem dL_law_580 : decode cL_law 580 = .ok (.iadd, 1) := by decide +kernel
theorem dL_law_581 : decode cL_law 581 = .ok (.iaload, 1) := by decide +kernel
theorem dL_law_582 : decode cL_law 582 = .ok (.invokevirtual 64, 3) := by decide +kernel
theorem dL_law_585 : decode cL_law 585 = .ok (.if_icmp .eq 767, 3) := by decide +kernel
theorem dL_law_588 : decode cL_law 588 = .ok (.iconst 0, 1) := by decide +kernel
theorem dL_law_589 : decode cL_law 589 = .ok (.ireturn, 1) := by decide +kernel
theorem dL_law_590 : decode cL_law 590 = .ok (.aload_n 1, 1) := by decide +kernel
theorem dL_law_591 : decode cL_law 591 = .ok (.aload_n 0, 1) := by decide +kernel
theorem dL_law_592 : decode cL_law 592 = .ok (.iload_n 3, 1) := by decide +kernel
theorem dL_law_593 : decode cL_law 593 = .ok (.iconst 1, 1) := by decide +kernel
theorem dL_law_594 : decode cL_law 594 = .ok (.iadd, 1) := by decide +kernel
theorem dL_law_595 : decode cL_law 595 = .ok (.iaload, 1) := by decide +kernel
theorem dL_law_596 : decode cL_law 596 = .ok (.i2l, 1) := by decide +kernel
theorem dL_law_597 : decode cL_law 597 = .ok (.bipush 32, 2) := by decide +kernel
theorem dL_law_599 : decode cL_law 599 = .ok (.lshl, 1) := by decide +kernel
theorem dL_law_600 : decode cL_law 600 = .ok (.aload_n 0, 1) := by decide +kernel
theorem dL_law_601 : decode cL_law 601 = .ok (.iload_n 3, 1) := by decide +kernel
theorem dL_law_602 : decode cL_law 602 = .ok (.iconst 2, 1) := by decide +kernel
theorem dL_law_603 : decode cL_law 603 = .ok (.iadd, 1) := by decide +kernel
theorem dL_law_604 : decode cL_law 604 = .ok (.iaload, 1) := by decide +kernel
theorem dL_law_605 : decode cL_law 605 = .ok (.i2l, 1) := by decide +kernel
theorem dL_law_606 : decode cL_law 606 = .ok (.ldc2_w 65, 3) := by decide +kernel
theorem dL_law_609 : decode cL_law 609 = .ok (.land, 1) := by decide +kernel
theorem dL_law_610 : decode cL_law 610 = .ok (.lor, 1) := by decide +kernel
theorem dL_law_611 : decode cL_law 611 = .ok (.invokevirtual 67, 3) := by decide +kernel
theorem dL_law_614 : decode cL_law 614 = .ok (.aload_n 2, 1) := by decide +kernel
theorem dL_law_615 : decode cL_law 615 = .ok (.aload_n 0, 1) := by decide +kernel
theorem dL_law_616 : decode cL_law 616 = .ok (.iload_n 3, 1) := by decide +kernel
theorem dL_law_617 : decode cL_law 617 = .ok (.iconst 1, 1) := by decide +kernel
theorem dL_law_618 : decode cL_law 618 = .ok (.iadd, 1) := by decide +kernel
theorem dL_law_619 : decode cL_law 619 = .ok (.iaload, 1) := by decide +kernel
theorem dL_law_620 : decode cL_law 620 = .ok (.i2l, 1) := by decide +kernel
theorem dL_law_621 : decode cL_law 621 = .ok (.bipush 32, 2) := by decide +kernel
theorem dL_law_623 : decode cL_law 623 = .ok (.lshl, 1) := by decide +kernel
theorem dL_law_624 : decode cL_law 624 = .ok (.aload_n 0, 1) := by decide +kernel
theorem dL_law_625 : decode cL_law 625 = .ok (.iload_n 3, 1) := by decide +kernel
theorem dL_law_626 : decode cL_law 626 = .ok (.iconst 2, 1) := by decide +kernel
theorem dL_law_627 : decode cL_law 627 = .ok (.iadd, 1) := by decide +kernel
theorem dL_law_628 : decode cL_law 628 = .ok (.iaload, 1) := by decide +kernel
theorem dL_law_629 : decode cL_law 629 = .ok (.i2l, 1) := by decide +kernel
theorem dL_law_630 : decode cL_law 630 = .ok (.ldc2_w 65, 3) := by decide +kernel
theorem dL_law_633 : decode cL_law 633 = .ok (.land, 1) := by decide +kernel
theorem dL_law_634 : decode cL_law 634 = .ok (.lor, 1) := by decide +kernel
theorem dL_law_635 : decode cL_law 635 = .ok (.invokevirtual 71, 3) := by decide +kernel
theorem dL_law_638 : decode cL_law 638 = .ok (.if_icmp .eq 714, 3) := by decide +kernel
theorem dL_law_641 : decode cL_law 641 = .ok (.iconst 0, 1) := by decide +kernel
theorem dL_law_642 : decode cL_law 642 = .ok (.ireturn, 1) := by decide +kernel
theorem dL_law_643 : decode cL_law 643 = .ok (.aload_n 1, 1) := by decide +kernel
theorem dL_law_644 : decode cL_law 644 = .ok (.invokevirtual 72, 3) := by decide +kernel
theorem dL_law_647 : decode cL_law 647 = .ok (.aload_n 2, 1) := by decide +kernel
theorem dL_law_648 : decode cL_law 648 = .ok (.invokevirtual 76, 3) := by decide +kernel
theorem dL_law_651 : decode cL_law 651 = .ok (.if_icmp .eq 701, 3) := by decide +kernel
theorem dL_law_654 : decode cL_law 654 = .ok (.iconst 0, 1) := by decide +kernel
theorem dL_law_655 : decode cL_law 655 = .ok (.ireturn, 1) := by decide +kernel
theorem dL_law_656 : decode cL_law 656 = .ok (.aload_n 1, 1) := by decide +kernel
theorem dL_law_657 : decode cL_law 657 = .ok (.invokevirtual 77, 3) := by decide +kernel
theorem dL_law_660 : decode cL_law 660 = .ok (.aload_n 2, 1) := by decide +kernel
theorem dL_law_661 : decode cL_law 661 = .ok (.invokevirtual 80, 3) := by decide +kernel
theorem dL_law_664 : decode cL_law 664 = .ok (.if_icmp .eq 688, 3) := by decide +kernel
theorem dL_law_667 : decode cL_law 667 = .ok (.iconst 0, 1) := by decide +kernel
theorem dL_law_668 : decode cL_law 668 = .ok (.ireturn, 1) := by decide +kernel
theorem dL_law_669 : decode cL_law 669 = .ok (.aload_n 1, 1) := by decide +kernel
theorem dL_law_670 : decode cL_law 670 = .ok (.invokevirtual 81, 3) := by decide +kernel
theorem dL_law_673 : decode cL_law 673 = .ok (.aload_n 2, 1) := by decide +kernel
theorem dL_law_674 : decode cL_law 674 = .ok (.invokevirtual 84, 3) := by decide +kernel
theorem dL_law_677 : decode cL_law 677 = .ok (.if_icmp .eq 675, 3) := by decide +kernel
theorem dL_law_680 : decode cL_law 680 = .ok (.iconst 0, 1) := by decide +kernel
theorem dL_law_681 : decode cL_law 681 = .ok (.ireturn, 1) := by decide +kernel
theorem dL_law_682 : decode cL_law 682 = .ok (.aload_n 1, 1) := by decide +kernel
theorem dL_law_683 : decode cL_law 683 = .ok (.aload_n 0, 1) := by decide +kernel
theorem dL_law_684 : decode cL_law 684 = .ok (.iload_n 3, 1) := by decide +kernel
theorem dL_law_685 : decode cL_law 685 = .ok (.iconst 1, 1) := by decide +kernel
theorem dL_law_686 : decode cL_law 686 = .ok (.iadd, 1) := by decide +kernel
theorem dL_law_687 : decode cL_law 687 = .ok (.iaload, 1) := by decide +kernel
theorem dL_law_688 : decode cL_law 688 = .ok (.aload_n 0, 1) := by decide +kernel
theorem dL_law_689 : decode cL_law 689 = .ok (.iload_n 3, 1) := by decide +kernel
theorem dL_law_690 : decode cL_law 690 = .ok (.iconst 2, 1) := by decide +kernel
theorem dL_law_691 : decode cL_law 691 = .ok (.iadd, 1) := by decide +kernel
theorem dL_law_692 : decode cL_law 692 = .ok (.iaload, 1) := by decide +kernel
theorem dL_law_693 : decode cL_law 693 = .ok (.aload_n 0, 1) := by decide +kernel
theorem dL_law_694 : decode cL_law 694 = .ok (.iload_n 3, 1) := by decide +kernel
theorem dL_law_695 : decode cL_law 695 = .ok (.iconst 3, 1) := by decide +kernel
theorem dL_law_696 : decode cL_law 696 = .ok (.iadd, 1) := by decide +kernel
theorem dL_law_697 : decode cL_law 697 = .ok (.iaload, 1) := by decide +kernel
theorem dL_law_698 : decode cL_law 698 = .ok (.invokevirtual 85, 3) := by decide +kernel
theorem dL_law_701 : decode cL_law 701 = .ok (.aload_n 2, 1) := by decide +kernel
theorem dL_law_702 : decode cL_law 702 = .ok (.aload_n 0, 1) := by decide +kernel
theorem dL_law_703 : decode cL_law 703 = .ok (.iload_n 3, 1) := by decide +kernel
theorem dL_law_704 : decode cL_law 704 = .ok (.iconst 1, 1) := by decide +kernel
theorem dL_law_705 : decode cL_law 705 = .ok (.iadd, 1) := by decide +kernel
theorem dL_law_706 : decode cL_law 706 = .ok (.iaload, 1) := by decide +kernel
theorem dL_law_707 : decode cL_law 707 = .ok (.aload_n 0, 1) := by decide +kernel
theorem dL_law_708 : decode cL_law 708 = .ok (.iload_n 3, 1) := by decide +kernel
theorem dL_law_709 : decode cL_law 709 = .ok (.iconst 2, 1) := by decide +kernel
theorem dL_law_710 : decode cL_law 710 = .ok (.iadd, 1) := by decide +kernel
theorem dL_law_711 : decode cL_law 711 = .ok (.iaload, 1) := by decide +kernel
theorem dL_law_712 : decode cL_law 712 = .ok (.aload_n 0, 1) := by decide +kernel
theorem dL_law_713 : decode cL_law 713 = .ok (.iload_n 3, 1) := by decide +kernel
theorem dL_law_714 : decode cL_law 714 = .ok (.iconst 3, 1) := by decide +kernel
theorem dL_law_715 : decode cL_law 715 = .ok (.iadd, 1) := by decide +kernel
theorem dL_law_716 : decode cL_law 716 = .ok (.iaload, 1) := by decide +kernel
theorem dL_law_717 : decode cL_law 717 = .ok (.invokevirtual 88, 3) := by decide +kernel
theorem dL_law_720 : decode cL_law 720 = .ok (.if_icmp .eq 632, 3) := by decide +kernel
theorem dL_law_723 : decode cL_law 723 = .ok (.iconst 0, 1) := by decide +kernel
theorem dL_law_724 : decode cL_law 724 = .ok (.ireturn, 1) := by decide +kernel
theorem dL_law_725 : decode cL_law 725 = .ok (.aload_n 1, 1) := by decide +kernel
theorem dL_law_726 : decode cL_law 726 = .ok (.aload_n 0, 1) := by decide +kernel
theorem dL_law_727 : decode cL_law 727 = .ok (.iload_n 3, 1) := by decide +kernel
theorem dL_law_728 : decode cL_law 728 = .ok (.iconst 1, 1) := by decide +kernel
theorem dL_law_729 : decode cL_law 729 = .ok (.iadd, 1) := by decide +kernel
theorem dL_law_730 : decode cL_law 730 = .ok (.iaload, 1) := by decide +kernel
theorem dL_law_731 : decode cL_law 731 = .ok (.aload_n 0, 1) := by decide +kernel
theorem dL_law_732 : decode cL_law 732 = .ok (.iload_n 3, 1) := by decide +kernel
theorem dL_law_733 : decode cL_law 733 = .ok (.iconst 2, 1) := by decide +kernel
theorem dL_law_734 : decode cL_law 734 = .ok (.iadd, 1) := by decide +kernel
theorem dL_law_735 : decode cL_law 735 = .ok (.iaload, 1) := by decide +kernel
theorem dL_law_736 : decode cL_law 736 = .ok (.invokevirtual 89, 3) := by decide +kernel
theorem dL_law_739 : decode cL_law 739 = .ok (.aload_n 2, 1) := by decide +kernel
theorem dL_law_740 : decode cL_law 740 = .ok (.aload_n 0, 1) := by decide +kernel
theorem dL_law_741 : decode cL_law 741 = .ok (.iload_n 3, 1) := by decide +kernel
theorem dL_law_742 : decode cL_law 742 = .ok (.iconst 1, 1) := by decide +kernel
theorem dL_law_743 : decode cL_law 743 = .ok (.iadd, 1) := by decide +kernel
theorem dL_law_744 : decode cL_law 744 = .ok (.iaload, 1) := by decide +kernel
theorem dL_law_745 : decode cL_law 745 = .ok (.aload_n 0, 1) := by decide +kernel
theorem dL_law_746 : decode cL_law 746 = .ok (.iload_n 3, 1) := by decide +kernel
theorem dL_law_747 : decode cL_law 747 = .ok (.iconst 2, 1) := by decide +kernel
theorem dL_law_748 : decode cL_law 748 = .ok (.iadd, 1) := by decide +kernel
theorem dL_law_749 : decode cL_law 749 = .ok (.iaload, 1) := by decide +kernel
theorem dL_law_750 : decode cL_law 750 = .ok (.invokevirtual 92, 3) := by decide +kernel
theorem dL_law_753 : decode cL_law 753 = .ok (.if_icmp .eq 599, 3) := by decide +kernel
theorem dL_law_756 : decode cL_law 756 = .ok (.iconst 0, 1) := by decide +kernel
theorem dL_law_757 : decode cL_law 757 = .ok (.ireturn, 1) := by decide +kernel
theorem dL_law_758 : decode cL_law 758 = .ok (.aload_n 1, 1) := by decide +kernel
theorem dL_law_759 : decode cL_law 759 = .ok (.aload_n 0, 1) := by decide +kernel
theorem dL_law_760 : decode cL_law 760 = .ok (.iload_n 3, 1) := by decide +kernel
theorem dL_law_761 : decode cL_law 761 = .ok (.iconst 1, 1) := by decide +kernel
theorem dL_law_762 : decode cL_law 762 = .ok (.iadd, 1) := by decide +kernel
theorem dL_law_763 : decode cL_law 763 = .ok (.iaload, 1) := by decide +kernel
theorem dL_law_764 : decode cL_law 764 = .ok (.invokevirtual 93, 3) := by decide +kernel
theorem dL_law_767 : decode cL_law 767 = .ok (.aload_n 2, 1) := by decide +kernel
theorem dL_law_768 : decode cL_law 768 = .ok (.aload_n 0, 1) := by decide +kernel
theorem dL_law_769 : decode cL_law 769 = .ok (.iload_n 3, 1) := by decide +kernel
theorem dL_law_770 : decode cL_law 770 = .ok (.iconst 1, 1) := by decide +kernel
theorem dL_law_771 : decode cL_law 771 = .ok (.iadd, 1) := by decide +kernel
theorem dL_law_772 : decode cL_law 772 = .ok (.iaload, 1) := by decide +kernel
theorem dL_law_773 : decode cL_law 773 = .ok (.invokevirtual 96, 3) := by decide +kernel
theorem dL_law_776 : decode cL_law 776 = .ok (.if_icmp .eq 576, 3) := by decide +kernel
theorem dL_law_779 : decode cL_law 779 = .ok (.iconst 0, 1) := by decide +kernel
theorem dL_law_780 : decode cL_law 780 = .ok (.ireturn, 1) := by decide +kernel
theorem dL_law_781 : decode cL_law 781 = .ok (.aload_n 1, 1) := by decide +kernel
theorem dL_law_782 : decode cL_law 782 = .ok (.aload_n 0, 1) := by decide +kernel
theorem dL_law_783 : decode cL_law 783 = .ok (.iload_n 3, 1) := by decide +kernel
theorem dL_law_784 : decode cL_law 784 = .ok (.iconst 1, 1) := by decide +kernel
theorem dL_law_785 : decode cL_law 785 = .ok (.iadd, 1) := by decide +kernel
theorem dL_law_786 : decode cL_law 786 = .ok (.iaload, 1) := by decide +kernel
theorem dL_law_787 : decode cL_law 787 = .ok (.aload_n 0, 1) := by decide +kernel
theorem dL_law_788 : decode cL_law 788 = .ok (.iload_n 3, 1) := by decide +kernel
theorem dL_law_789 : decode cL_law 789 = .ok (.iconst 2, 1) := by decide +kernel
theorem dL_law_790 : decode cL_law 790 = .ok (.iadd, 1) := by decide +kernel
theorem dL_law_791 : decode cL_law 791 = .ok (.iaload, 1) := by decide +kernel
theorem dL_law_792 : decode cL_law 792 = .ok (.invokevirtual 97, 3) := by decide +kernel
theorem dL_law_795 : decode cL_law 795 = .ok (.aload_n 2, 1) := by decide +kernel
theorem dL_law_796 : decode cL_law 796 = .ok (.aload_n 0, 1) := by decide +kernel
theorem dL_law_797 : decode cL_law 797 = .ok (.iload_n 3, 1) := by decide +kernel
theorem dL_law_798 : decode cL_law 798 = .ok (.iconst 1, 1) := by decide +kernel
theorem dL_law_799 : decode cL_law 799 = .ok (.iadd, 1) := by decide +kernel
theorem dL_law_800 : decode cL_law 800 = .ok (.iaload, 1) := by decide +kernel
theorem dL_law_801 : decode cL_law 801 = .ok (.aload_n 0, 1) := by decide +kernel
theorem dL_law_802 : decode cL_law 802 = .ok (.iload_n 3, 1) := by decide +kernel
theorem dL_law_803 : decode cL_law 803 = .ok (.iconst 2, 1) := by decide +kernel
theorem dL_law_804 : decode cL_law 804 = .ok (.iadd, 1) := by decide +kernel
theorem dL_law_805 : decode cL_law 805 = .ok (.iaload, 1) := by decide +kernel
theorem dL_law_806 : decode cL_law 806 = .ok (.invokevirtual 100, 3) := by decide +kernel
theorem dL_law_809 : decode cL_law 809 = .ok (.if_icmp .eq 543, 3) := by decide +kernel
theorem dL_law_812 : decode cL_law 812 = .ok (.iconst 0, 1) := by decide +kernel
theorem dL_law_813 : decode cL_law 813 = .ok (.ireturn, 1) := by decide +kernel
theorem dL_law_814 : decode cL_law 814 = .ok (.aload_n 1, 1) := by decide +kernel
theorem dL_law_815 : decode cL_law 815 = .ok (.aload_n 0, 1) := by decide +kernel
theorem dL_law_816 : decode cL_law 816 = .ok (.iload_n 3, 1) := by decide +kernel
theorem dL_law_817 : decode cL_law 817 = .ok (.iconst 1, 1) := by decide +kernel
theorem dL_law_818 : decode cL_law 818 = .ok (.iadd, 1) := by decide +kernel
theorem dL_law_819 : decode cL_law 819 = .ok (.iaload, 1) := by decide +kernel
theorem dL_law_820 : decode cL_law 820 = .ok (.aload_n 0, 1) := by decide +kernel
theorem dL_law_821 : decode cL_law 821 = .ok (.iload_n 3, 1) := by decide +kernel
theorem dL_law_822 : decode cL_law 822 = .ok (.iconst 2, 1) := by decide +kernel
theorem dL_law_823 : decode cL_law 823 = .ok (.iadd, 1) := by decide +kernel
theorem dL_law_824 : decode cL_law 824 = .ok (.iaload, 1) := by decide +kernel
theorem dL_law_825 : decode cL_law 825 = .ok (.invokevirtual 101, 3) := by decide +kernel
theorem dL_law_828 : decode cL_law 828 = .ok (.aload_n 2, 1) := by decide +kernel
theorem dL_law_829 : decode cL_law 829 = .ok (.aload_n 0, 1) := by decide +kernel
theorem dL_law_830 : decode cL_law 830 = .ok (.iload_n 3, 1) := by decide +kernel
theorem dL_law_831 : decode cL_law 831 = .ok (.iconst 1, 1) := by decide +kernel
theorem dL_law_832 : decode cL_law 832 = .ok (.iadd, 1) := by decide +kernel
theorem dL_law_833 : decode cL_law 833 = .ok (.iaload, 1) := by decide +kernel
theorem dL_law_834 : decode cL_law 834 = .ok (.aload_n 0, 1) := by decide +kernel
theorem dL_law_835 : decode cL_law 835 = .ok (.iload_n 3, 1) := by decide +kernel
theorem dL_law_836 : decode cL_law 836 = .ok (.iconst 2, 1) := by decide +kernel
theorem dL_law_837 : decode cL_law 837 = .ok (.iadd, 1) := by decide +kernel
theorem dL_law_838 : decode cL_law 838 = .ok (.iaload, 1) := by decide +kernel
theorem dL_law_839 : decode cL_law 839 = .ok (.invokevirtual 104, 3) := by decide +kernel
theorem dL_law_842 : decode cL_law 842 = .ok (.if_icmp .eq 510, 3) := by decide +kernel
theorem dL_law_845 : decode cL_law 845 = .ok (.iconst 0, 1) := by decide +kernel
theorem dL_law_846 : decode cL_law 846 = .ok (.ireturn, 1) := by decide +kernel
theorem dL_law_847 : decode cL_law 847 = .ok (.aload_n 1, 1) := by decide +kernel
theorem dL_law_848 : decode cL_law 848 = .ok (.aload_n 0, 1) := by decide +kernel
theorem dL_law_849 : decode cL_law 849 = .ok (.iload_n 3, 1) := by decide +kernel
theorem dL_law_850 : decode cL_law 850 = .ok (.iconst 1, 1) := by decide +kernel
theorem dL_law_851 : decode cL_law 851 = .ok (.iadd, 1) := by decide +kernel
theorem dL_law_852 : decode cL_law 852 = .ok (.iaload, 1) := by decide +kernel
theorem dL_law_853 : decode cL_law 853 = .ok (.aload_n 0, 1) := by decide +kernel
theorem dL_law_854 : decode cL_law 854 = .ok (.iload_n 3, 1) := by decide +kernel
theorem dL_law_855 : decode cL_law 855 = .ok (.iconst 2, 1) := by decide +kernel
theorem dL_law_856 : decode cL_law 856 = .ok (.iadd, 1) := by decide +kernel
theorem dL_law_857 : decode cL_law 857 = .ok (.iaload, 1) := by decide +kernel
theorem dL_law_858 : decode cL_law 858 = .ok (.invokevirtual 105, 3) := by decide +kernel
theorem dL_law_861 : decode cL_law 861 = .ok (.aload_n 2, 1) := by decide +kernel
theorem dL_law_862 : decode cL_law 862 = .ok (.aload_n 0, 1) := by decide +kernel
theorem dL_law_863 : decode cL_law 863 = .ok (.iload_n 3, 1) := by decide +kernel
theorem dL_law_864 : decode cL_law 864 = .ok (.iconst 1, 1) := by decide +kernel
theorem dL_law_865 : decode cL_law 865 = .ok (.iadd, 1) := by decide +kernel
theorem dL_law_866 : decode cL_law 866 = .ok (.iaload, 1) := by decide +kernel
theorem dL_law_867 : decode cL_law 867 = .ok (.aload_n 0, 1) := by decide +kernel
theorem dL_law_868 : decode cL_law 868 = .ok (.iload_n 3, 1) := by decide +kernel
theorem dL_law_869 : decode cL_law 869 = .ok (.iconst 2, 1) := by decide +kernel
theorem dL_law_870 : decode cL_law 870 = .ok (.iadd, 1) := by decide +kernel
theorem dL_law_871 : decode cL_law 871 = .ok (.iaload, 1) := by decide +kernel
theorem dL_law_872 : decode cL_law 872 = .ok (.invokevirtual 108, 3) := by decide +kernel
theorem dL_law_875 : decode cL_law 875 = .ok (.if_icmp .eq 477, 3) := by decide +kernel
theorem dL_law_878 : decode cL_law 878 = .ok (.iconst 0, 1) := by decide +kernel
theorem dL_law_879 : decode cL_law 879 = .ok (.ireturn, 1) := by decide +kernel
theorem dL_law_880 : decode cL_law 880 = .ok (.aload_n 1, 1) := by decide +kernel
theorem dL_law_881 : decode cL_law 881 = .ok (.aload_n 0, 1) := by decide +kernel
theorem dL_law_882 : decode cL_law 882 = .ok (.iload_n 3, 1) := by decide +kernel
theorem dL_law_883 : decode cL_law 883 = .ok (.iconst 1, 1) := by decide +kernel
theorem dL_law_884 : decode cL_law 884 = .ok (.iadd, 1) := by decide +kernel
theorem dL_law_885 : decode cL_law 885 = .ok (.iaload, 1) := by decide +kernel
theorem dL_law_886 : decode cL_law 886 = .ok (.aload_n 0, 1) := by decide +kernel
theorem dL_law_887 : decode cL_law 887 = .ok (.iload_n 3, 1) := by decide +kernel
theorem dL_law_888 : decode cL_law 888 = .ok (.iconst 2, 1) := by decide +kernel
theorem dL_law_889 : decode cL_law 889 = .ok (.iadd, 1) := by decide +kernel
theorem dL_law_890 : decode cL_law 890 = .ok (.iaload, 1) := by decide +kernel
theorem dL_law_891 : decode cL_law 891 = .ok (.invokevirtual 109, 3) := by decide +kernel
theorem dL_law_894 : decode cL_law 894 = .ok (.aload_n 2, 1) := by decide +kernel
theorem dL_law_895 : decode cL_law 895 = .ok (.aload_n 0, 1) := by decide +kernel
theorem dL_law_896 : decode cL_law 896 = .ok (.iload_n 3, 1) := by decide +kernel
theorem dL_law_897 : decode cL_law 897 = .ok (.iconst 1, 1) := by decide +kernel
theorem dL_law_898 : decode cL_law 898 = .ok (.iadd, 1) := by decide +kernel
theorem dL_law_899 : decode cL_law 899 = .ok (.iaload, 1) := by decide +kernel
theorem dL_law_900 : decode cL_law 900 = .ok (.aload_n 0, 1) := by decide +kernel
theorem dL_law_901 : decode cL_law 901 = .ok (.iload_n 3, 1) := by decide +kernel
theorem dL_law_902 : decode cL_law 902 = .ok (.iconst 2, 1) := by decide +kernel
theorem dL_law_903 : decode cL_law 903 = .ok (.iadd, 1) := by decide +kernel
theorem dL_law_904 : decode cL_law 904 = .ok (.iaload, 1) := by decide +kernel
theorem dL_law_905 : decode cL_law 905 = .ok (.invokevirtual 112, 3) := by decide +kernel
theorem dL_law_908 : decode cL_law 908 = .ok (.if_icmp .eq 444, 3) := by decide +kernel
theorem dL_law_911 : decode cL_law 911 = .ok (.iconst 0, 1) := by decide +kernel
theorem dL_law_912 : decode cL_law 912 = .ok (.ireturn, 1) := by decide +kernel
theorem dL_law_913 : decode cL_law 913 = .ok (.aload_n 1, 1) := by decide +kernel
theorem dL_law_914 : decode cL_law 914 = .ok (.aload_n 0, 1) := by decide +kernel
theorem dL_law_915 : decode cL_law 915 = .ok (.iload_n 3, 1) := by decide +kernel
theorem dL_law_916 : decode cL_law 916 = .ok (.iconst 1, 1) := by decide +kernel
theorem dL_law_917 : decode cL_law 917 = .ok (.iadd, 1) := by decide +kernel
theorem dL_law_918 : decode cL_law 918 = .ok (.iaload, 1) := by decide +kernel
theorem dL_law_919 : decode cL_law 919 = .ok (.invokevirtual 113, 3) := by decide +kernel
theorem dL_law_922 : decode cL_law 922 = .ok (.aload_n 2, 1) := by decide +kernel
theorem dL_law_923 : decode cL_law 923 = .ok (.aload_n 0, 1) := by decide +kernel
theorem dL_law_924 : decode cL_law 924 = .ok (.iload_n 3, 1) := by decide +kernel
theorem dL_law_925 : decode cL_law 925 = .ok (.iconst 1, 1) := by decide +kernel
theorem dL_law_926 : decode cL_law 926 = .ok (.iadd, 1) := by decide +kernel
theorem dL_law_927 : decode cL_law 927 = .ok (.iaload, 1) := by decide +kernel
theorem dL_law_928 : decode cL_law 928 = .ok (.invokevirtual 116, 3) := by decide +kernel
theorem dL_law_931 : decode cL_law 931 = .ok (.if_icmp .eq 421, 3) := by decide +kernel
theorem dL_law_934 : decode cL_law 934 = .ok (.iconst 0, 1) := by decide +kernel
theorem dL_law_935 : decode cL_law 935 = .ok (.ireturn, 1) := by decide +kernel
theorem dL_law_936 : decode cL_law 936 = .ok (.aload_n 1, 1) := by decide +kernel
theorem dL_law_937 : decode cL_law 937 = .ok (.aload_n 0, 1) := by decide +kernel
theorem dL_law_938 : decode cL_law 938 = .ok (.iload_n 3, 1) := by decide +kernel
theorem dL_law_939 : decode cL_law 939 = .ok (.iconst 1, 1) := by decide +kernel
theorem dL_law_940 : decode cL_law 940 = .ok (.iadd, 1) := by decide +kernel
theorem dL_law_941 : decode cL_law 941 = .ok (.iaload, 1) := by decide +kernel
theorem dL_law_942 : decode cL_law 942 = .ok (.invokevirtual 117, 3) := by decide +kernel
theorem dL_law_945 : decode cL_law 945 = .ok (.aload_n 2, 1) := by decide +kernel
theorem dL_law_946 : decode cL_law 946 = .ok (.aload_n 0, 1) := by decide +kernel
theorem dL_law_947 : decode cL_law 947 = .ok (.iload_n 3, 1) := by decide +kernel
theorem dL_law_948 : decode cL_law 948 = .ok (.iconst 1, 1) := by decide +kernel
theorem dL_law_949 : decode cL_law 949 = .ok (.iadd, 1) := by decide +kernel
theorem dL_law_950 : decode cL_law 950 = .ok (.iaload, 1) := by decide +kernel
theorem dL_law_951 : decode cL_law 951 = .ok (.invokevirtual 120, 3) := by decide +kernel
theorem dL_law_954 : decode cL_law 954 = .ok (.if_icmp .eq 398, 3) := by decide +kernel
theorem dL_law_957 : decode cL_law 957 = .ok (.iconst 0, 1) := by decide +kernel
theorem dL_law_958 : decode cL_law 958 = .ok (.ireturn, 1) := by decide +kernel
theorem dL_law_959 : decode cL_law 959 = .ok (.aload_n 1, 1) := by decide +kernel
theorem dL_law_960 : decode cL_law 960 = .ok (.aload_n 0, 1) := by decide +kernel
theorem dL_law_961 : decode cL_law 961 = .ok (.iload_n 3, 1) := by decide +kernel
theorem dL_law_962 : decode cL_law 962 = .ok (.iconst 1, 1) := by decide +kernel
theorem dL_law_963 : decode cL_law 963 = .ok (.iadd, 1) := by decide +kernel
theorem dL_law_964 : decode cL_law 964 = .ok (.iaload, 1) := by decide +kernel
theorem dL_law_965 : decode cL_law 965 = .ok (.aload_n 0, 1) := by decide +kernel
theorem dL_law_966 : decode cL_law 966 = .ok (.iload_n 3, 1) := by decide +kernel
theorem dL_law_967 : decode cL_law 967 = .ok (.iconst 2, 1) := by decide +kernel
theorem dL_law_968 : decode cL_law 968 = .ok (.iadd, 1) := by decide +kernel
theorem dL_law_969 : decode cL_law 969 = .ok (.iaload, 1) := by decide +kernel
theorem dL_law_970 : decode cL_law 970 = .ok (.invokevirtual 121, 3) := by decide +kernel
theorem dL_law_973 : decode cL_law 973 = .ok (.aload_n 2, 1) := by decide +kernel
theorem dL_law_974 : decode cL_law 974 = .ok (.aload_n 0, 1) := by decide +kernel
theorem dL_law_975 : decode cL_law 975 = .ok (.iload_n 3, 1) := by decide +kernel
theorem dL_law_976 : decode cL_law 976 = .ok (.iconst 1, 1) := by decide +kernel
theorem dL_law_977 : decode cL_law 977 = .ok (.iadd, 1) := by decide +kernel
theorem dL_law_978 : decode cL_law 978 = .ok (.iaload, 1) := by decide +kernel
theorem dL_law_979 : decode cL_law 979 = .ok (.aload_n 0, 1) := by decide +kernel
theorem dL_law_980 : decode cL_law 980 = .ok (.iload_n 3, 1) := by decide +kernel
theorem dL_law_981 : decode cL_law 981 = .ok (.iconst 2, 1) := by decide +kernel
theorem dL_law_982 : decode cL_law 982 = .ok (.iadd, 1) := by decide +kernel
theorem dL_law_983 : decode cL_law 983 = .ok (.iaload, 1) := by decide +kernel
theorem dL_law_984 : decode cL_law 984 = .ok (.invokevirtual 124, 3) := by decide +kernel
theorem dL_law_987 : decode cL_law 987 = .ok (.if_icmp .eq 365, 3) := by decide +kernel
theorem dL_law_990 : decode cL_law 990 = .ok (.iconst 0, 1) := by decide +kernel
theorem dL_law_991 : decode cL_law 991 = .ok (.ireturn, 1) := by decide +kernel
theorem dL_law_992 : decode cL_law 992 = .ok (.aload_n 1, 1) := by decide +kernel
theorem dL_law_993 : decode cL_law 993 = .ok (.aload_n 0, 1) := by decide +kernel
theorem dL_law_994 : decode cL_law 994 = .ok (.iload_n 3, 1) := by decide +kernel
theorem dL_law_995 : decode cL_law 995 = .ok (.iconst 1, 1) := by decide +kernel
theorem dL_law_996 : decode cL_law 996 = .ok (.iadd, 1) := by decide +kernel
theorem dL_law_997 : decode cL_law 997 = .ok (.iaload, 1) := by decide +kernel
theorem dL_law_998 : decode cL_law 998 = .ok (.aload_n 0, 1) := by decide +kernel
theorem dL_law_999 : decode cL_law 999 = .ok (.iload_n 3, 1) := by decide +kernel
theorem dL_law_1000 : decode cL_law 1000 = .ok (.iconst 2, 1) := by decide +kernel
theorem dL_law_1001 : decode cL_law 1001 = .ok (.iadd, 1) := by decide +kernel
theorem dL_law_1002 : decode cL_law 1002 = .ok (.iaload, 1) := by decide +kernel
theorem dL_law_1003 : decode cL_law 1003 = .ok (.invokevirtual 125, 3) := by decide +kernel
theorem dL_law_1006 : decode cL_law 1006 = .ok (.aload_n 2, 1) := by decide +kernel
theorem dL_law_1007 : decode cL_law 1007 = .ok (.aload_n 0, 1) := by decide +kernel
theorem dL_law_1008 : decode cL_law 1008 = .ok (.iload_n 3, 1) := by decide +kernel
theorem dL_law_1009 : decode cL_law 1009 = .ok (.iconst 1, 1) := by decide +kernel
theorem dL_law_1010 : decode cL_law 1010 = .ok (.iadd, 1) := by decide +kernel
theorem dL_law_1011 : decode cL_law 1011 = .ok (.iaload, 1) := by decide +kernel
theorem dL_law_1012 : decode cL_law 1012 = .ok (.aload_n 0, 1) := by decide +kernel
theorem dL_law_1013 : decode cL_law 1013 = .ok (.iload_n 3, 1) := by decide +kernel
theorem dL_law_1014 : decode cL_law 1014 = .ok (.iconst 2, 1) := by decide +kernel
theorem dL_law_1015 : decode cL_law 1015 = .ok (.iadd, 1) := by decide +kernel
theorem dL_law_1016 : decode cL_law 1016 = .ok (.iaload, 1) := by decide +kernel
theorem dL_law_1017 : decode cL_law 1017 = .ok (.invokevirtual 128, 3) := by decide +kernel
theorem dL_law_1020 : decode cL_law 1020 = .ok (.if_icmp .eq 332, 3) := by decide +kernel
theorem dL_law_1023 : decode cL_law 1023 = .ok (.iconst 0, 1) := by decide +kernel
theorem dL_law_1024 : decode cL_law 1024 = .ok (.ireturn, 1) := by decide +kernel
theorem dL_law_1025 : decode cL_law 1025 = .ok (.aload_n 1, 1) := by decide +kernel
theorem dL_law_1026 : decode cL_law 1026 = .ok (.aload_n 0, 1) := by decide +kernel
theorem dL_law_1027 : decode cL_law 1027 = .ok (.iload_n 3, 1) := by decide +kernel
theorem dL_law_1028 : decode cL_law 1028 = .ok (.iconst 1, 1) := by decide +kernel
theorem dL_law_1029 : decode cL_law 1029 = .ok (.iadd, 1) := by decide +kernel
theorem dL_law_1030 : decode cL_law 1030 = .ok (.iaload, 1) := by decide +kernel
theorem dL_law_1031 : decode cL_law 1031 = .ok (.aload_n 0, 1) := by decide +kernel
theorem dL_law_1032 : decode cL_law 1032 = .ok (.iload_n 3, 1) := by decide +kernel
theorem dL_law_1033 : decode cL_law 1033 = .ok (.iconst 2, 1) := by decide +kernel
theorem dL_law_1034 : decode cL_law 1034 = .ok (.iadd, 1) := by decide +kernel
theorem dL_law_1035 : decode cL_law 1035 = .ok (.iaload, 1) := by decide +kernel
theorem dL_law_1036 : decode cL_law 1036 = .ok (.invokevirtual 129, 3) := by decide +kernel
theorem dL_law_1039 : decode cL_law 1039 = .ok (.aload_n 2, 1) := by decide +kernel
theorem dL_law_1040 : decode cL_law 1040 = .ok (.aload_n 0, 1) := by decide +kernel
theorem dL_law_1041 : decode cL_law 1041 = .ok (.iload_n 3, 1) := by decide +kernel
theorem dL_law_1042 : decode cL_law 1042 = .ok (.iconst 1, 1) := by decide +kernel
theorem dL_law_1043 : decode cL_law 1043 = .ok (.iadd, 1) := by decide +kernel
theorem dL_law_1044 : decode cL_law 1044 = .ok (.iaload, 1) := by decide +kernel
theorem dL_law_1045 : decode cL_law 1045 = .ok (.aload_n 0, 1) := by decide +kernel
theorem dL_law_1046 : decode cL_law 1046 = .ok (.iload_n 3, 1) := by decide +kernel
theorem dL_law_1047 : decode cL_law 1047 = .ok (.iconst 2, 1) := by decide +kernel
theorem dL_law_1048 : decode cL_law 1048 = .ok (.iadd, 1) := by decide +kernel
theorem dL_law_1049 : decode cL_law 1049 = .ok (.iaload, 1) := by decide +kernel
theorem dL_law_1050 : decode cL_law 1050 = .ok (.invokevirtual 132, 3) := by decide +kernel
theorem dL_law_1053 : decode cL_law 1053 = .ok (.if_icmp .eq 299, 3) := by decide +kernel
theorem dL_law_1056 : decode cL_law 1056 = .ok (.iconst 0, 1) := by decide +kernel
theorem dL_law_1057 : decode cL_law 1057 = .ok (.ireturn, 1) := by decide +kernel
theorem dL_law_1058 : decode cL_law 1058 = .ok (.aload_n 1, 1) := by decide +kernel
theorem dL_law_1059 : decode cL_law 1059 = .ok (.aload_n 0, 1) := by decide +kernel
theorem dL_law_1060 : decode cL_law 1060 = .ok (.iload_n 3, 1) := by decide +kernel
theorem dL_law_1061 : decode cL_law 1061 = .ok (.iconst 1, 1) := by decide +kernel
theorem dL_law_1062 : decode cL_law 1062 = .ok (.iadd, 1) := by decide +kernel
theorem dL_law_1063 : decode cL_law 1063 = .ok (.iaload, 1) := by decide +kernel
theorem dL_law_1064 : decode cL_law 1064 = .ok (.invokevirtual 133, 3) := by decide +kernel
theorem dL_law_1067 : decode cL_law 1067 = .ok (.aload_n 2, 1) := by decide +kernel
theorem dL_law_1068 : decode cL_law 1068 = .ok (.aload_n 0, 1) := by decide +kernel
theorem dL_law_1069 : decode cL_law 1069 = .ok (.iload_n 3, 1) := by decide +kernel
theorem dL_law_1070 : decode cL_law 1070 = .ok (.iconst 1, 1) := by decide +kernel
theorem dL_law_1071 : decode cL_law 1071 = .ok (.iadd, 1) := by decide +kernel
theorem dL_law_1072 : decode cL_law 1072 = .ok (.iaload, 1) := by decide +kernel
theorem dL_law_1073 : decode cL_law 1073 = .ok (.invokevirtual 136, 3) := by decide +kernel
theorem dL_law_1076 : decode cL_law 1076 = .ok (.if_icmp .eq 276, 3) := by decide +kernel
theorem dL_law_1079 : decode cL_law 1079 = .ok (.iconst 0, 1) := by decide +kernel
theorem dL_law_1080 : decode cL_law 1080 = .ok (.ireturn, 1) := by decide +kernel
theorem dL_law_1081 : decode cL_law 1081 = .ok (.aload_n 1, 1) := by decide +kernel
theorem dL_law_1082 : decode cL_law 1082 = .ok (.aload_n 0, 1) := by decide +kernel
theorem dL_law_1083 : decode cL_law 1083 = .ok (.iload_n 3, 1) := by decide +kernel
theorem dL_law_1084 : decode cL_law 1084 = .ok (.iconst 1, 1) := by decide +kernel
theorem dL_law_1085 : decode cL_law 1085 = .ok (.iadd, 1) := by decide +kernel
theorem dL_law_1086 : decode cL_law 1086 = .ok (.iaload, 1) := by decide +kernel
theorem dL_law_1087 : decode cL_law 1087 = .ok (.aload_n 0, 1) := by decide +kernel
theorem dL_law_1088 : decode cL_law 1088 = .ok (.iload_n 3, 1) := by decide +kernel
theorem dL_law_1089 : decode cL_law 1089 = .ok (.iconst 2, 1) := by decide +kernel
theorem dL_law_1090 : decode cL_law 1090 = .ok (.iadd, 1) := by decide +kernel
theorem dL_law_1091 : decode cL_law 1091 = .ok (.iaload, 1) := by decide +kernel
theorem dL_law_1092 : decode cL_law 1092 = .ok (.aload_n 0, 1) := by decide +kernel
theorem dL_law_1093 : decode cL_law 1093 = .ok (.iload_n 3, 1) := by decide +kernel
theorem dL_law_1094 : decode cL_law 1094 = .ok (.iconst 3, 1) := by decide +kernel
theorem dL_law_1095 : decode cL_law 1095 = .ok (.iadd, 1) := by decide +kernel
theorem dL_law_1096 : decode cL_law 1096 = .ok (.iaload, 1) := by decide +kernel
theorem dL_law_1097 : decode cL_law 1097 = .ok (.invokevirtual 137, 3) := by decide +kernel
theorem dL_law_1100 : decode cL_law 1100 = .ok (.aload_n 2, 1) := by decide +kernel
theorem dL_law_1101 : decode cL_law 1101 = .ok (.aload_n 0, 1) := by decide +kernel
theorem dL_law_1102 : decode cL_law 1102 = .ok (.iload_n 3, 1) := by decide +kernel
theorem dL_law_1103 : decode cL_law 1103 = .ok (.iconst 1, 1) := by decide +kernel
theorem dL_law_1104 : decode cL_law 1104 = .ok (.iadd, 1) := by decide +kernel
theorem dL_law_1105 : decode cL_law 1105 = .ok (.iaload, 1) := by decide +kernel
theorem dL_law_1106 : decode cL_law 1106 = .ok (.aload_n 0, 1) := by decide +kernel
theorem dL_law_1107 : decode cL_law 1107 = .ok (.iload_n 3, 1) := by decide +kernel
theorem dL_law_1108 : decode cL_law 1108 = .ok (.iconst 2, 1) := by decide +kernel
theorem dL_law_1109 : decode cL_law 1109 = .ok (.iadd, 1) := by decide +kernel
theorem dL_law_1110 : decode cL_law 1110 = .ok (.iaload, 1) := by decide +kernel
theorem dL_law_1111 : decode cL_law 1111 = .ok (.aload_n 0, 1) := by decide +kernel
theorem dL_law_1112 : decode cL_law 1112 = .ok (.iload_n 3, 1) := by decide +kernel
theorem dL_law_1113 : decode cL_law 1113 = .ok (.iconst 3, 1) := by decide +kernel
theorem dL_law_1114 : decode cL_law 1114 = .ok (.iadd, 1) := by decide +kernel
theorem dL_law_1115 : decode cL_law 1115 = .ok (.iaload, 1) := by decide +kernel
theorem dL_law_1116 : decode cL_law 1116 = .ok (.invokevirtual 140, 3) := by decide +kernel
theorem dL_law_1119 : decode cL_law 1119 = .ok (.if_icmp .eq 233, 3) := by decide +kernel
theorem dL_law_1122 : decode cL_law 1122 = .ok (.iconst 0, 1) := by decide +kernel
theorem dL_law_1123 : decode cL_law 1123 = .ok (.ireturn, 1) := by decide +kernel
theorem dL_law_1124 : decode cL_law 1124 = .ok (.aload_n 1, 1) := by decide +kernel
theorem dL_law_1125 : decode cL_law 1125 = .ok (.aload_n 0, 1) := by decide +kernel
theorem dL_law_1126 : decode cL_law 1126 = .ok (.iload_n 3, 1) := by decide +kernel
theorem dL_law_1127 : decode cL_law 1127 = .ok (.iconst 1, 1) := by decide +kernel
theorem dL_law_1128 : decode cL_law 1128 = .ok (.iadd, 1) := by decide +kernel
theorem dL_law_1129 : decode cL_law 1129 = .ok (.iaload, 1) := by decide +kernel
theorem dL_law_1130 : decode cL_law 1130 = .ok (.aload_n 0, 1) := by decide +kernel
theorem dL_law_1131 : decode cL_law 1131 = .ok (.iload_n 3, 1) := by decide +kernel
theorem dL_law_1132 : decode cL_law 1132 = .ok (.iconst 2, 1) := by decide +kernel
theorem dL_law_1133 : decode cL_law 1133 = .ok (.iadd, 1) := by decide +kernel
theorem dL_law_1134 : decode cL_law 1134 = .ok (.iaload, 1) := by decide +kernel
theorem dL_law_1135 : decode cL_law 1135 = .ok (.aload_n 0, 1) := by decide +kernel
theorem dL_law_1136 : decode cL_law 1136 = .ok (.iload_n 3, 1) := by decide +kernel
theorem dL_law_1137 : decode cL_law 1137 = .ok (.iconst 3, 1) := by decide +kernel
theorem dL_law_1138 : decode cL_law 1138 = .ok (.iadd, 1) := by decide +kernel
theorem dL_law_1139 : decode cL_law 1139 = .ok (.iaload, 1) := by decide +kernel
theorem dL_law_1140 : decode cL_law 1140 = .ok (.aload_n 0, 1) := by decide +kernel
theorem dL_law_1141 : decode cL_law 1141 = .ok (.iload_n 3, 1) := by decide +kernel
theorem dL_law_1142 : decode cL_law 1142 = .ok (.iconst 4, 1) := by decide +kernel
theorem dL_law_1143 : decode cL_law 1143 = .ok (.iadd, 1) := by decide +kernel
theorem dL_law_1144 : decode cL_law 1144 = .ok (.iaload, 1) := by decide +kernel
theorem dL_law_1145 : decode cL_law 1145 = .ok (.invokevirtual 141, 3) := by decide +kernel
theorem dL_law_1148 : decode cL_law 1148 = .ok (.aload_n 2, 1) := by decide +kernel
theorem dL_law_1149 : decode cL_law 1149 = .ok (.aload_n 0, 1) := by decide +kernel
theorem dL_law_1150 : decode cL_law 1150 = .ok (.iload_n 3, 1) := by decide +kernel
theorem dL_law_1151 : decode cL_law 1151 = .ok (.iconst 1, 1) := by decide +kernel
theorem dL_law_1152 : decode cL_law 1152 = .ok (.iadd, 1) := by decide +kernel
theorem dL_law_1153 : decode cL_law 1153 = .ok (.iaload, 1) := by decide +kernel
theorem dL_law_1154 : decode cL_law 1154 = .ok (.aload_n 0, 1) := by decide +kernel
theorem dL_law_1155 : decode cL_law 1155 = .ok (.iload_n 3, 1) := by decide +kernel
theorem dL_law_1156 : decode cL_law 1156 = .ok (.iconst 2, 1) := by decide +kernel
theorem dL_law_1157 : decode cL_law 1157 = .ok (.iadd, 1) := by decide +kernel
theorem dL_law_1158 : decode cL_law 1158 = .ok (.iaload, 1) := by decide +kernel
theorem dL_law_1159 : decode cL_law 1159 = .ok (.aload_n 0, 1) := by decide +kernel
theorem dL_law_1160 : decode cL_law 1160 = .ok (.iload_n 3, 1) := by decide +kernel
theorem dL_law_1161 : decode cL_law 1161 = .ok (.iconst 3, 1) := by decide +kernel
theorem dL_law_1162 : decode cL_law 1162 = .ok (.iadd, 1) := by decide +kernel
theorem dL_law_1163 : decode cL_law 1163 = .ok (.iaload, 1) := by decide +kernel
theorem dL_law_1164 : decode cL_law 1164 = .ok (.aload_n 0, 1) := by decide +kernel
theorem dL_law_1165 : decode cL_law 1165 = .ok (.iload_n 3, 1) := by decide +kernel
theorem dL_law_1166 : decode cL_law 1166 = .ok (.iconst 4, 1) := by decide +kernel
theorem dL_law_1167 : decode cL_law 1167 = .ok (.iadd, 1) := by decide +kernel
theorem dL_law_1168 : decode cL_law 1168 = .ok (.iaload, 1) := by decide +kernel
theorem dL_law_1169 : decode cL_law 1169 = .ok (.invokevirtual 144, 3) := by decide +kernel
theorem dL_law_1172 : decode cL_law 1172 = .ok (.if_icmp .eq 180, 3) := by decide +kernel
theorem dL_law_1175 : decode cL_law 1175 = .ok (.iconst 0, 1) := by decide +kernel
theorem dL_law_1176 : decode cL_law 1176 = .ok (.ireturn, 1) := by decide +kernel
theorem dL_law_1177 : decode cL_law 1177 = .ok (.aload_n 1, 1) := by decide +kernel
theorem dL_law_1178 : decode cL_law 1178 = .ok (.aload_n 0, 1) := by decide +kernel
theorem dL_law_1179 : decode cL_law 1179 = .ok (.iload_n 3, 1) := by decide +kernel
theorem dL_law_1180 : decode cL_law 1180 = .ok (.iconst 1, 1) := by decide +kernel
theorem dL_law_1181 : decode cL_law 1181 = .ok (.iadd, 1) := by decide +kernel
theorem dL_law_1182 : decode cL_law 1182 = .ok (.iaload, 1) := by decide +kernel
theorem dL_law_1183 : decode cL_law 1183 = .ok (.invokevirtual 145, 3) := by decide +kernel
theorem dL_law_1186 : decode cL_law 1186 = .ok (.aload_n 2, 1) := by decide +kernel
theorem dL_law_1187 : decode cL_law 1187 = .ok (.aload_n 0, 1) := by decide +kernel
theorem dL_law_1188 : decode cL_law 1188 = .ok (.iload_n 3, 1) := by decide +kernel
theorem dL_law_1189 : decode cL_law 1189 = .ok (.iconst 1, 1) := by decide +kernel
theorem dL_law_1190 : decode cL_law 1190 = .ok (.iadd, 1) := by decide +kernel
theorem dL_law_1191 : decode cL_law 1191 = .ok (.iaload, 1) := by decide +kernel
theorem dL_law_1192 : decode cL_law 1192 = .ok (.invokevirtual 148, 3) := by decide +kernel
theorem dL_law_1195 : decode cL_law 1195 = .ok (.if_icmp .eq 157, 3) := by decide +kernel
theorem dL_law_1198 : decode cL_law 1198 = .ok (.iconst 0, 1) := by decide +kernel
theorem dL_law_1199 : decode cL_law 1199 = .ok (.ireturn, 1) := by decide +kernel
theorem dL_law_1200 : decode cL_law 1200 = .ok (.aload_n 1, 1) := by decide +kernel
theorem dL_law_1201 : decode cL_law 1201 = .ok (.aload_n 0, 1) := by decide +kernel
theorem dL_law_1202 : decode cL_law 1202 = .ok (.iload_n 3, 1) := by decide +kernel
theorem dL_law_1203 : decode cL_law 1203 = .ok (.iconst 1, 1) := by decide +kernel
theorem dL_law_1204 : decode cL_law 1204 = .ok (.iadd, 1) := by decide +kernel
theorem dL_law_1205 : decode cL_law 1205 = .ok (.iaload, 1) := by decide +kernel
theorem dL_law_1206 : decode cL_law 1206 = .ok (.aload_n 0, 1) := by decide +kernel
theorem dL_law_1207 : decode cL_law 1207 = .ok (.iload_n 3, 1) := by decide +kernel
theorem dL_law_1208 : decode cL_law 1208 = .ok (.iconst 2, 1) := by decide +kernel
theorem dL_law_1209 : decode cL_law 1209 = .ok (.iadd, 1) := by decide +kernel
theorem dL_law_1210 : decode cL_law 1210 = .ok (.iaload, 1) := by decide +kernel
theorem dL_law_1211 : decode cL_law 1211 = .ok (.invokevirtual 149, 3) := by decide +kernel
theorem dL_law_1214 : decode cL_law 1214 = .ok (.aload_n 2, 1) := by decide +kernel
theorem dL_law_1215 : decode cL_law 1215 = .ok (.aload_n 0, 1) := by decide +kernel
theorem dL_law_1216 : decode cL_law 1216 = .ok (.iload_n 3, 1) := by decide +kernel
theorem dL_law_1217 : decode cL_law 1217 = .ok (.iconst 1, 1) := by decide +kernel
theorem dL_law_1218 : decode cL_law 1218 = .ok (.iadd, 1) := by decide +kernel
theorem dL_law_1219 : decode cL_law 1219 = .ok (.iaload, 1) := by decide +kernel
theorem dL_law_1220 : decode cL_law 1220 = .ok (.aload_n 0, 1) := by decide +kernel
theorem dL_law_1221 : decode cL_law 1221 = .ok (.iload_n 3, 1) := by decide +kernel
theorem dL_law_1222 : decode cL_law 1222 = .ok (.iconst 2, 1) := by decide +kernel
theorem dL_law_1223 : decode cL_law 1223 = .ok (.iadd, 1) := by decide +kernel
theorem dL_law_1224 : decode cL_law 1224 = .ok (.iaload, 1) := by decide +kernel
theorem dL_law_1225 : decode cL_law 1225 = .ok (.invokevirtual 152, 3) := by decide +kernel
theorem dL_law_1228 : decode cL_law 1228 = .ok (.if_icmp .eq 124, 3) := by decide +kernel
theorem dL_law_1231 : decode cL_law 1231 = .ok (.iconst 0, 1) := by decide +kernel
theorem dL_law_1232 : decode cL_law 1232 = .ok (.ireturn, 1) := by decide +kernel
theorem dL_law_1233 : decode cL_law 1233 = .ok (.aload_n 1, 1) := by decide +kernel
theorem dL_law_1234 : decode cL_law 1234 = .ok (.aload_n 0, 1) := by decide +kernel
theorem dL_law_1235 : decode cL_law 1235 = .ok (.iload_n 3, 1) := by decide +kernel
theorem dL_law_1236 : decode cL_law 1236 = .ok (.iconst 1, 1) := by decide +kernel
theorem dL_law_1237 : decode cL_law 1237 = .ok (.iadd, 1) := by decide +kernel
theorem dL_law_1238 : decode cL_law 1238 = .ok (.iaload, 1) := by decide +kernel
theorem dL_law_1239 : decode cL_law 1239 = .ok (.invokevirtual 153, 3) := by decide +kernel
theorem dL_law_1242 : decode cL_law 1242 = .ok (.aload_n 2, 1) := by decide +kernel
theorem dL_law_1243 : decode cL_law 1243 = .ok (.aload_n 0, 1) := by decide +kernel
theorem dL_law_1244 : decode cL_law 1244 = .ok (.iload_n 3, 1) := by decide +kernel
theorem dL_law_1245 : decode cL_law 1245 = .ok (.iconst 1, 1) := by decide +kernel
theorem dL_law_1246 : decode cL_law 1246 = .ok (.iadd, 1) := by decide +kernel
theorem dL_law_1247 : decode cL_law 1247 = .ok (.iaload, 1) := by decide +kernel
theorem dL_law_1248 : decode cL_law 1248 = .ok (.invokevirtual 156, 3) := by decide +kernel
theorem dL_law_1251 : decode cL_law 1251 = .ok (.if_icmp .eq 101, 3) := by decide +kernel
theorem dL_law_1254 : decode cL_law 1254 = .ok (.iconst 0, 1) := by decide +kernel
theorem dL_law_1255 : decode cL_law 1255 = .ok (.ireturn, 1) := by decide +kernel
theorem dL_law_1256 : decode cL_law 1256 = .ok (.aload_n 1, 1) := by decide +kernel
theorem dL_law_1257 : decode cL_law 1257 = .ok (.aload_n 0, 1) := by decide +kernel
theorem dL_law_1258 : decode cL_law 1258 = .ok (.iload_n 3, 1) := by decide +kernel
theorem dL_law_1259 : decode cL_law 1259 = .ok (.iconst 1, 1) := by decide +kernel
theorem dL_law_1260 : decode cL_law 1260 = .ok (.iadd, 1) := by decide +kernel
theorem dL_law_1261 : decode cL_law 1261 = .ok (.iaload, 1) := by decide +kernel
theorem dL_law_1262 : decode cL_law 1262 = .ok (.invokevirtual 157, 3) := by decide +kernel
theorem dL_law_1265 : decode cL_law 1265 = .ok (.aload_n 2, 1) := by decide +kernel
theorem dL_law_1266 : decode cL_law 1266 = .ok (.aload_n 0, 1) := by decide +kernel
theorem dL_law_1267 : decode cL_law 1267 = .ok (.iload_n 3, 1) := by decide +kernel
theorem dL_law_1268 : decode cL_law 1268 = .ok (.iconst 1, 1) := by decide +kernel
theorem dL_law_1269 : decode cL_law 1269 = .ok (.iadd, 1) := by decide +kernel
theorem dL_law_1270 : decode cL_law 1270 = .ok (.iaload, 1) := by decide +kernel
theorem dL_law_1271 : decode cL_law 1271 = .ok (.invokevirtual 160, 3) := by decide +kernel
theorem dL_law_1274 : decode cL_law 1274 = .ok (.if_icmp .eq 78, 3) := by decide +kernel
theorem dL_law_1277 : decode cL_law 1277 = .ok (.iconst 0, 1) := by decide +kernel
theorem dL_law_1278 : decode cL_law 1278 = .ok (.ireturn, 1) := by decide +kernel
theorem dL_law_1279 : decode cL_law 1279 = .ok (.aload_n 1, 1) := by decide +kernel
theorem dL_law_1280 : decode cL_law 1280 = .ok (.invokevirtual 161, 3) := by decide +kernel
theorem dL_law_1283 : decode cL_law 1283 = .ok (.aload_n 2, 1) := by decide +kernel
theorem dL_law_1284 : decode cL_law 1284 = .ok (.invokevirtual 164, 3) := by decide +kernel
theorem dL_law_1287 : decode cL_law 1287 = .ok (.if_icmp .eq 65, 3) := by decide +kernel
theorem dL_law_1290 : decode cL_law 1290 = .ok (.iconst 0, 1) := by decide +kernel
theorem dL_law_1291 : decode cL_law 1291 = .ok (.ireturn, 1) := by decide +kernel
theorem dL_law_1292 : decode cL_law 1292 = .ok (.aload_n 1, 1) := by decide +kernel
theorem dL_law_1293 : decode cL_law 1293 = .ok (.aload_n 0, 1) := by decide +kernel
theorem dL_law_1294 : decode cL_law 1294 = .ok (.iload_n 3, 1) := by decide +kernel
theorem dL_law_1295 : decode cL_law 1295 = .ok (.iconst 1, 1) := by decide +kernel
theorem dL_law_1296 : decode cL_law 1296 = .ok (.iadd, 1) := by decide +kernel
theorem dL_law_1297 : decode cL_law 1297 = .ok (.iaload, 1) := by decide +kernel
theorem dL_law_1298 : decode cL_law 1298 = .ok (.invokevirtual 165, 3) := by decide +kernel
theorem dL_law_1301 : decode cL_law 1301 = .ok (.aload_n 2, 1) := by decide +kernel
theorem dL_law_1302 : decode cL_law 1302 = .ok (.aload_n 0, 1) := by decide +kernel
theorem dL_law_1303 : decode cL_law 1303 = .ok (.iload_n 3, 1) := by decide +kernel
theorem dL_law_1304 : decode cL_law 1304 = .ok (.iconst 1, 1) := by decide +kernel
theorem dL_law_1305 : decode cL_law 1305 = .ok (.iadd, 1) := by decide +kernel
theorem dL_law_1306 : decode cL_law 1306 = .ok (.iaload, 1) := by decide +kernel
theorem dL_law_1307 : decode cL_law 1307 = .ok (.invokevirtual 168, 3) := by decide +kernel
theorem dL_law_1310 : decode cL_law 1310 = .ok (.if_icmp .eq 42, 3) := by decide +kernel
theorem dL_law_1313 : decode cL_law 1313 = .ok (.iconst 0, 1) := by decide +kernel
theorem dL_law_1314 : decode cL_law 1314 = .ok (.ireturn, 1) := by decide +kernel
theorem dL_law_1315 : decode cL_law 1315 = .ok (.aload_n 1, 1) := by decide +kernel
theorem dL_law_1316 : decode cL_law 1316 = .ok (.aload_n 0, 1) := by decide +kernel
theorem dL_law_1317 : decode cL_law 1317 = .ok (.iload_n 3, 1) := by decide +kernel
theorem dL_law_1318 : decode cL_law 1318 = .ok (.iconst 1, 1) := by decide +kernel
theorem dL_law_1319 : decode cL_law 1319 = .ok (.iadd, 1) := by decide +kernel
theorem dL_law_1320 : decode cL_law 1320 = .ok (.iaload, 1) := by decide +kernel
theorem dL_law_1321 : decode cL_law 1321 = .ok (.invokevirtual 169, 3) := by decide +kernel
theorem dL_law_1324 : decode cL_law 1324 = .ok (.aload_n 2, 1) := by decide +kernel
theorem dL_law_1325 : decode cL_law 1325 = .ok (.aload_n 0, 1) := by decide +kernel
theorem dL_law_1326 : decode cL_law 1326 = .ok (.iload_n 3, 1) := by decide +kernel
theorem dL_law_1327 : decode cL_law 1327 = .ok (.iconst 1, 1) := by decide +kernel
theorem dL_law_1328 : decode cL_law 1328 = .ok (.iadd, 1) := by decide +kernel
theorem dL_law_1329 : decode cL_law 1329 = .ok (.iaload, 1) := by decide +kernel
theorem dL_law_1330 : decode cL_law 1330 = .ok (.invokevirtual 172, 3) := by decide +kernel
theorem dL_law_1333 : decode cL_law 1333 = .ok (.if_icmp .eq 19, 3) := by decide +kernel
theorem dL_law_1336 : decode cL_law 1336 = .ok (.iconst 0, 1) := by decide +kernel
theorem dL_law_1337 : decode cL_law 1337 = .ok (.ireturn, 1) := by decide +kernel
theorem dL_law_1338 : decode cL_law 1338 = .ok (.aload_n 1, 1) := by decide +kernel
theorem dL_law_1339 : decode cL_law 1339 = .ok (.invokevirtual 173, 3) := by decide +kernel
theorem dL_law_1342 : decode cL_law 1342 = .ok (.aload_n 2, 1) := by decide +kernel
theorem dL_law_1343 : decode cL_law 1343 = .ok (.invokevirtual 177, 3) := by decide +kernel
theorem dL_law_1346 : decode cL_law 1346 = .ok (.lcmp, 1) := by decide +kernel
theorem dL_law_1347 : decode cL_law 1347 = .ok (.ifCond .eq 5, 3) := by decide +kernel
theorem dL_law_1350 : decode cL_law 1350 = .ok (.iconst 0, 1) := by decide +kernel
theorem dL_law_1351 : decode cL_law 1351 = .ok (.ireturn, 1) := by decide +kernel
theorem dL_law_1352 : decode cL_law 1352 = .ok (.iinc 3 5, 3) := by decide +kernel
theorem dL_law_1355 : decode cL_law 1355 = .ok (.goto (-1337), 3) := by decide +kernel
theorem dL_law_1358 : decode cL_law 1358 = .ok (.iconst 1, 1) := by decide +kernel
theorem dL_law_1359 : decode cL_law 1359 = .ok (.ireturn, 1) := by decide +kernel
