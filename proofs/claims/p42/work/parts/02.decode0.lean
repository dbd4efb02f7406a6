theorem dX0_init_0 : decode cX0_init 0 = .ok (.aload_n 0, 1) := by decide +kernel
theorem dX0_init_1 : decode cX0_init 1 = .ok (.invokespecial 3, 3) := by decide +kernel
theorem dX0_init_4 : decode cX0_init 4 = .ok (.aload_n 0, 1) := by decide +kernel
theorem dX0_init_5 : decode cX0_init 5 = .ok (.iconst 3, 1) := by decide +kernel
theorem dX0_init_6 : decode cX0_init 6 = .ok (.anewarray 9, 3) := by decide +kernel
theorem dX0_init_9 : decode cX0_init 9 = .ok (.putfield 11, 3) := by decide +kernel
theorem dX0_init_12 : decode cX0_init 12 = .ok (.iconst 0, 1) := by decide +kernel
theorem dX0_init_13 : decode cX0_init 13 = .ok (.istore_n 1, 1) := by decide +kernel
theorem dX0_init_14 : decode cX0_init 14 = .ok (.iload_n 1, 1) := by decide +kernel
theorem dX0_init_15 : decode cX0_init 15 = .ok (.aload_n 0, 1) := by decide +kernel
theorem dX0_init_16 : decode cX0_init 16 = .ok (.getfield 11, 3) := by decide +kernel
theorem dX0_init_19 : decode cX0_init 19 = .ok (.arraylength, 1) := by decide +kernel
theorem dX0_init_20 : decode cX0_init 20 = .ok (.if_icmp .ge 22, 3) := by decide +kernel
theorem dX0_init_23 : decode cX0_init 23 = .ok (.aload_n 0, 1) := by decide +kernel
theorem dX0_init_24 : decode cX0_init 24 = .ok (.getfield 11, 3) := by decide +kernel
theorem dX0_init_27 : decode cX0_init 27 = .ok (.iload_n 1, 1) := by decide +kernel
theorem dX0_init_28 : decode cX0_init 28 = .ok (.new 9, 3) := by decide +kernel
theorem dX0_init_31 : decode cX0_init 31 = .ok (.dup, 1) := by decide +kernel
theorem dX0_init_32 : decode cX0_init 32 = .ok (.invokespecial 17, 3) := by decide +kernel
theorem dX0_init_35 : decode cX0_init 35 = .ok (.aastore, 1) := by decide +kernel
theorem dX0_init_36 : decode cX0_init 36 = .ok (.iinc 1 1, 3) := by decide +kernel
theorem dX0_init_39 : decode cX0_init 39 = .ok (.goto (-25), 3) := by decide +kernel
theorem dX0_init_42 : decode cX0_init 42 = .ok (.return_, 1) := by decide +kernel
theorem dX0_marked_0 : decode cX0_marked 0 = .ok (.aload_n 0, 1) := by decide +kernel
theorem dX0_marked_1 : decode cX0_marked 1 = .ok (.getfield 18, 3) := by decide +kernel
theorem dX0_marked_4 : decode cX0_marked 4 = .ok (.ireturn, 1) := by decide +kernel
theorem dX1_init_0 : decode cX1_init 0 = .ok (.aload_n 0, 1) := by decide +kernel
theorem dX1_init_1 : decode cX1_init 1 = .ok (.invokespecial 3, 3) := by decide +kernel
theorem dX1_init_4 : decode cX1_init 4 = .ok (.aload_n 0, 1) := by decide +kernel
theorem dX1_init_5 : decode cX1_init 5 = .ok (.iload_n 1, 1) := by decide +kernel
theorem dX1_init_6 : decode cX1_init 6 = .ok (.ifCond .le 7, 3) := by decide +kernel
theorem dX1_init_9 : decode cX1_init 9 = .ok (.iload_n 1, 1) := by decide +kernel
theorem dX1_init_10 : decode cX1_init 10 = .ok (.goto 4, 3) := by decide +kernel
theorem dX1_init_13 : decode cX1_init 13 = .ok (.iconst 0, 1) := by decide +kernel
theorem dX1_init_14 : decode cX1_init 14 = .ok (.newarray .int, 2) := by decide +kernel
theorem dX1_init_16 : decode cX1_init 16 = .ok (.putfield 9, 3) := by decide +kernel
theorem dX1_init_19 : decode cX1_init 19 = .ok (.return_, 1) := by decide +kernel
theorem dX1_at_0 : decode cX1_at 0 = .ok (.iload_n 1, 1) := by decide +kernel
theorem dX1_at_1 : decode cX1_at 1 = .ok (.ifCond .lt 21, 3) := by decide +kernel
theorem dX1_at_4 : decode cX1_at 4 = .ok (.iload_n 1, 1) := by decide +kernel
theorem dX1_at_5 : decode cX1_at 5 = .ok (.aload_n 0, 1) := by decide +kernel
theorem dX1_at_6 : decode cX1_at 6 = .ok (.getfield 9, 3) := by decide +kernel
theorem dX1_at_9 : decode cX1_at 9 = .ok (.arraylength, 1) := by decide +kernel
theorem dX1_at_10 : decode cX1_at 10 = .ok (.if_icmp .ge 12, 3) := by decide +kernel
theorem dX1_at_13 : decode cX1_at 13 = .ok (.aload_n 0, 1) := by decide +kernel
theorem dX1_at_14 : decode cX1_at 14 = .ok (.getfield 9, 3) := by decide +kernel
theorem dX1_at_17 : decode cX1_at 17 = .ok (.iload_n 1, 1) := by decide +kernel
theorem dX1_at_18 : decode cX1_at 18 = .ok (.iaload, 1) := by decide +kernel
theorem dX1_at_19 : decode cX1_at 19 = .ok (.goto 4, 3) := by decide +kernel
theorem dX1_at_22 : decode cX1_at 22 = .ok (.iconst 0, 1) := by decide +kernel
theorem dX1_at_23 : decode cX1_at 23 = .ok (.ireturn, 1) := by decide +kernel
theorem dX1_put_0 : decode cX1_put 0 = .ok (.iload_n 1, 1) := by decide +kernel
theorem dX1_put_1 : decode cX1_put 1 = .ok (.ifCond .lt 19, 3) := by decide +kernel
theorem dX1_put_4 : decode cX1_put 4 = .ok (.iload_n 1, 1) := by decide +kernel
theorem dX1_put_5 : decode cX1_put 5 = .ok (.aload_n 0, 1) := by decide +kernel
theorem dX1_put_6 : decode cX1_put 6 = .ok (.getfield 9, 3) := by decide +kernel
theorem dX1_put_9 : decode cX1_put 9 = .ok (.arraylength, 1) := by decide +kernel
theorem dX1_put_10 : decode cX1_put 10 = .ok (.if_icmp .ge 10, 3) := by decide +kernel
theorem dX1_put_13 : decode cX1_put 13 = .ok (.aload_n 0, 1) := by decide +kernel
theorem dX1_put_14 : decode cX1_put 14 = .ok (.getfield 9, 3) := by decide +kernel
theorem dX1_put_17 : decode cX1_put 17 = .ok (.iload_n 1, 1) := by decide +kernel
theorem dX1_put_18 : decode cX1_put 18 = .ok (.iload_n 2, 1) := by decide +kernel
theorem dX1_put_19 : decode cX1_put 19 = .ok (.iastore, 1) := by decide +kernel
theorem dX1_put_20 : decode cX1_put 20 = .ok (.return_, 1) := by decide +kernel
theorem dX1_raise_0 : decode cX1_raise 0 = .ok (.aload_n 0, 1) := by decide +kernel
theorem dX1_raise_1 : decode cX1_raise 1 = .ok (.iload_n 1, 1) := by decide +kernel
theorem dX1_raise_2 : decode cX1_raise 2 = .ok (.aload_n 0, 1) := by decide +kernel
theorem dX1_raise_3 : decode cX1_raise 3 = .ok (.iload_n 1, 1) := by decide +kernel
theorem dX1_raise_4 : decode cX1_raise 4 = .ok (.invokevirtual 15, 3) := by decide +kernel
theorem dX1_raise_7 : decode cX1_raise 7 = .ok (.iload_n 2, 1) := by decide +kernel
theorem dX1_raise_8 : decode cX1_raise 8 = .ok (.iadd, 1) := by decide +kernel
theorem dX1_raise_9 : decode cX1_raise 9 = .ok (.invokevirtual 19, 3) := by decide +kernel
theorem dX1_raise_12 : decode cX1_raise 12 = .ok (.return_, 1) := by decide +kernel
theorem dX1_insert_0 : decode cX1_insert 0 = .ok (.iload_n 2, 1) := by decide +kernel
theorem dX1_insert_1 : decode cX1_insert 1 = .ok (.istore 4, 2) := by decide +kernel
theorem dX1_insert_3 : decode cX1_insert 3 = .ok (.iload 4, 2) := by decide +kernel
theorem dX1_insert_5 : decode cX1_insert 5 = .ok (.iload_n 1, 1) := by decide +kernel
theorem dX1_insert_6 : decode cX1_insert 6 = .ok (.if_icmp .le 23, 3) := by decide +kernel
theorem dX1_insert_9 : decode cX1_insert 9 = .ok (.aload_n 0, 1) := by decide +kernel
theorem dX1_insert_10 : decode cX1_insert 10 = .ok (.iload 4, 2) := by decide +kernel
theorem dX1_insert_12 : decode cX1_insert 12 = .ok (.aload_n 0, 1) := by decide +kernel
theorem dX1_insert_13 : decode cX1_insert 13 = .ok (.iload 4, 2) := by decide +kernel
theorem dX1_insert_15 : decode cX1_insert 15 = .ok (.iconst 1, 1) := by decide +kernel
theorem dX1_insert_16 : decode cX1_insert 16 = .ok (.isub, 1) := by decide +kernel
theorem dX1_insert_17 : decode cX1_insert 17 = .ok (.invokevirtual 15, 3) := by decide +kernel
theorem dX1_insert_20 : decode cX1_insert 20 = .ok (.invokevirtual 19, 3) := by decide +kernel
theorem dX1_insert_23 : decode cX1_insert 23 = .ok (.iinc 4 (-1), 3) := by decide +kernel
theorem dX1_insert_26 : decode cX1_insert 26 = .ok (.goto (-23), 3) := by decide +kernel
theorem dX1_insert_29 : decode cX1_insert 29 = .ok (.aload_n 0, 1) := by decide +kernel
theorem dX1_insert_30 : decode cX1_insert 30 = .ok (.iload_n 1, 1) := by decide +kernel
theorem dX1_insert_31 : decode cX1_insert 31 = .ok (.iload_n 3, 1) := by decide +kernel
theorem dX1_insert_32 : decode cX1_insert 32 = .ok (.invokevirtual 19, 3) := by decide +kernel
theorem dX1_insert_35 : decode cX1_insert 35 = .ok (.return_, 1) := by decide +kernel
theorem dX1_remove_0 : decode cX1_remove 0 = .ok (.iload_n 1, 1) := by decide +kernel
theorem dX1_remove_1 : decode cX1_remove 1 = .ok (.istore_n 3, 1) := by decide +kernel
theorem dX1_remove_2 : decode cX1_remove 2 = .ok (.iload_n 3, 1) := by decide +kernel
theorem dX1_remove_3 : decode cX1_remove 3 = .ok (.iload_n 2, 1) := by decide +kernel
theorem dX1_remove_4 : decode cX1_remove 4 = .ok (.iconst 1, 1) := by decide +kernel
theorem dX1_remove_5 : decode cX1_remove 5 = .ok (.isub, 1) := by decide +kernel
theorem dX1_remove_6 : decode cX1_remove 6 = .ok (.if_icmp .ge 21, 3) := by decide +kernel
theorem dX1_remove_9 : decode cX1_remove 9 = .ok (.aload_n 0, 1) := by decide +kernel
theorem dX1_remove_10 : decode cX1_remove 10 = .ok (.iload_n 3, 1) := by decide +kernel
theorem dX1_remove_11 : decode cX1_remove 11 = .ok (.aload_n 0, 1) := by decide +kernel
theorem dX1_remove_12 : decode cX1_remove 12 = .ok (.iload_n 3, 1) := by decide +kernel
theorem dX1_remove_13 : decode cX1_remove 13 = .ok (.iconst 1, 1) := by decide +kernel
theorem dX1_remove_14 : decode cX1_remove 14 = .ok (.iadd, 1) := by decide +kernel
theorem dX1_remove_15 : decode cX1_remove 15 = .ok (.invokevirtual 15, 3) := by decide +kernel
theorem dX1_remove_18 : decode cX1_remove 18 = .ok (.invokevirtual 19, 3) := by decide +kernel
theorem dX1_remove_21 : decode cX1_remove 21 = .ok (.iinc 3 1, 3) := by decide +kernel
theorem dX1_remove_24 : decode cX1_remove 24 = .ok (.goto (-22), 3) := by decide +kernel
theorem dX1_remove_27 : decode cX1_remove 27 = .ok (.return_, 1) := by decide +kernel
theorem dX1_placeOf_0 : decode cX1_placeOf 0 = .ok (.iconst 0, 1) := by decide +kernel
theorem dX1_placeOf_1 : decode cX1_placeOf 1 = .ok (.istore_n 3, 1) := by decide +kernel
theorem dX1_placeOf_2 : decode cX1_placeOf 2 = .ok (.iload_n 3, 1) := by decide +kernel
theorem dX1_placeOf_3 : decode cX1_placeOf 3 = .ok (.iload_n 2, 1) := by decide +kernel
theorem dX1_placeOf_4 : decode cX1_placeOf 4 = .ok (.if_icmp .ge 20, 3) := by decide +kernel
theorem dX1_placeOf_7 : decode cX1_placeOf 7 = .ok (.aload_n 0, 1) := by decide +kernel
theorem dX1_placeOf_8 : decode cX1_placeOf 8 = .ok (.iload_n 3, 1) := by decide +kernel
theorem dX1_placeOf_9 : decode cX1_placeOf 9 = .ok (.invokevirtual 15, 3) := by decide +kernel
theorem dX1_placeOf_12 : decode cX1_placeOf 12 = .ok (.iload_n 1, 1) := by decide +kernel
theorem dX1_placeOf_13 : decode cX1_placeOf 13 = .ok (.if_icmp .ne 5, 3) := by decide +kernel
theorem dX1_placeOf_16 : decode cX1_placeOf 16 = .ok (.iload_n 3, 1) := by decide +kernel
theorem dX1_placeOf_17 : decode cX1_placeOf 17 = .ok (.ireturn, 1) := by decide +kernel
theorem dX1_placeOf_18 : decode cX1_placeOf 18 = .ok (.iinc 3 1, 3) := by decide +kernel
theorem dX1_placeOf_21 : decode cX1_placeOf 21 = .ok (.goto (-19), 3) := by decide +kernel
theorem dX1_placeOf_24 : decode cX1_placeOf 24 = .ok (.iconst (-1), 1) := by decide +kernel
theorem dX1_placeOf_25 : decode cX1_placeOf 25 = .ok (.ireturn, 1) := by decide +kernel
theorem dX2_init_0 : decode cX2_init 0 = .ok (.aload_n 0, 1) := by decide +kernel
theorem dX2_init_1 : decode cX2_init 1 = .ok (.invokespecial 3, 3) := by decide +kernel
theorem dX2_init_4 : decode cX2_init 4 = .ok (.aload_n 0, 1) := by decide +kernel
theorem dX2_init_5 : decode cX2_init 5 = .ok (.new 9, 3) := by decide +kernel
theorem dX2_init_8 : decode cX2_init 8 = .ok (.dup, 1) := by decide +kernel
theorem dX2_init_9 : decode cX2_init 9 = .ok (.iconst 3, 1) := by decide +kernel
theorem dX2_init_10 : decode cX2_init 10 = .ok (.invokespecial 11, 3) := by decide +kernel
theorem dX2_init_13 : decode cX2_init 13 = .ok (.putfield 14, 3) := by decide +kernel
theorem dX2_init_16 : decode cX2_init 16 = .ok (.aload_n 0, 1) := by decide +kernel
theorem dX2_init_17 : decode cX2_init 17 = .ok (.new 9, 3) := by decide +kernel
theorem dX2_init_20 : decode cX2_init 20 = .ok (.dup, 1) := by decide +kernel
theorem dX2_init_21 : decode cX2_init 21 = .ok (.bipush 64, 2) := by decide +kernel
theorem dX2_init_23 : decode cX2_init 23 = .ok (.invokespecial 11, 3) := by decide +kernel
theorem dX2_init_26 : decode cX2_init 26 = .ok (.putfield 20, 3) := by decide +kernel
theorem dX2_init_29 : decode cX2_init 29 = .ok (.aload_n 0, 1) := by decide +kernel
theorem dX2_init_30 : decode cX2_init 30 = .ok (.new 9, 3) := by decide +kernel
theorem dX2_init_33 : decode cX2_init 33 = .ok (.dup, 1) := by decide +kernel
theorem dX2_init_34 : decode cX2_init 34 = .ok (.bipush 64, 2) := by decide +kernel
theorem dX2_init_36 : decode cX2_init 36 = .ok (.invokespecial 11, 3) := by decide +kernel
theorem dX2_init_39 : decode cX2_init 39 = .ok (.putfield 23, 3) := by decide +kernel
theorem dX2_init_42 : decode cX2_init 42 = .ok (.aload_n 0, 1) := by decide +kernel
theorem dX2_init_43 : decode cX2_init 43 = .ok (.aload_n 1, 1) := by decide +kernel
theorem dX2_init_44 : decode cX2_init 44 = .ok (.putfield 26, 3) := by decide +kernel
theorem dX2_init_47 : decode cX2_init 47 = .ok (.aload_n 0, 1) := by decide +kernel
theorem dX2_init_48 : decode cX2_init 48 = .ok (.iload_n 2, 1) := by decide +kernel
theorem dX2_init_49 : decode cX2_init 49 = .ok (.putfield 30, 3) := by decide +kernel
theorem dX2_init_52 : decode cX2_init 52 = .ok (.aload_n 0, 1) := by decide +kernel
theorem dX2_init_53 : decode cX2_init 53 = .ok (.iload_n 2, 1) := by decide +kernel
theorem dX2_init_54 : decode cX2_init 54 = .ok (.bipush 25, 2) := by decide +kernel
theorem dX2_init_56 : decode cX2_init 56 = .ok (.if_icmp .lt 7, 3) := by decide +kernel
theorem dX2_init_59 : decode cX2_init 59 = .ok (.iconst 3, 1) := by decide +kernel
theorem dX2_init_60 : decode cX2_init 60 = .ok (.goto 13, 3) := by decide +kernel
theorem dX2_init_63 : decode cX2_init 63 = .ok (.iload_n 2, 1) := by decide +kernel
theorem dX2_init_64 : decode cX2_init 64 = .ok (.iconst 5, 1) := by decide +kernel
theorem dX2_init_65 : decode cX2_init 65 = .ok (.if_icmp .lt 7, 3) := by decide +kernel
theorem dX2_init_68 : decode cX2_init 68 = .ok (.iconst 2, 1) := by decide +kernel
theorem dX2_init_69 : decode cX2_init 69 = .ok (.goto 4, 3) := by decide +kernel
theorem dX2_init_72 : decode cX2_init 72 = .ok (.iconst 1, 1) := by decide +kernel
theorem dX2_init_73 : decode cX2_init 73 = .ok (.putfield 34, 3) := by decide +kernel
theorem dX2_init_76 : decode cX2_init 76 = .ok (.aload_n 0, 1) := by decide +kernel
theorem dX2_init_77 : decode cX2_init 77 = .ok (.aload_n 0, 1) := by decide +kernel
theorem dX2_init_78 : decode cX2_init 78 = .ok (.getfield 34, 3) := by decide +kernel
theorem dX2_init_81 : decode cX2_init 81 = .ok (.iconst 1, 1) := by decide +kernel
theorem dX2_init_82 : decode cX2_init 82 = .ok (.if_icmp .ne 8, 3) := by decide +kernel
theorem dX2_init_85 : decode cX2_init 85 = .ok (.bipush 6, 2) := by decide +kernel
theorem dX2_init_87 : decode cX2_init 87 = .ok (.goto 16, 3) := by decide +kernel
theorem dX2_init_90 : decode cX2_init 90 = .ok (.aload_n 0, 1) := by decide +kernel
theorem dX2_init_91 : decode cX2_init 91 = .ok (.getfield 34, 3) := by decide +kernel
theorem dX2_init_94 : decode cX2_init 94 = .ok (.iconst 2, 1) := by decide +kernel
theorem dX2_init_95 : decode cX2_init 95 = .ok (.if_icmp .ne 7, 3) := by decide +kernel
theorem dX2_init_98 : decode cX2_init 98 = .ok (.iconst 4, 1) := by decide +kernel
theorem dX2_init_99 : decode cX2_init 99 = .ok (.goto 4, 3) := by decide +kernel
theorem dX2_init_102 : decode cX2_init 102 = .ok (.iconst 3, 1) := by decide +kernel
theorem dX2_init_103 : decode cX2_init 103 = .ok (.putfield 37, 3) := by decide +kernel
theorem dX2_init_106 : decode cX2_init 106 = .ok (.iload_n 2, 1) := by decide +kernel
theorem dX2_init_107 : decode cX2_init 107 = .ok (.istore_n 3, 1) := by decide +kernel
theorem dX2_init_108 : decode cX2_init 108 = .ok (.iconst 0, 1) := by decide +kernel
theorem dX2_init_109 : decode cX2_init 109 = .ok (.istore 4, 2) := by decide +kernel
theorem dX2_init_111 : decode cX2_init 111 = .ok (.aload_n 0, 1) := by decide +kernel
theorem dX2_init_112 : decode cX2_init 112 = .ok (.getfield 34, 3) := by decide +kernel
theorem dX2_init_115 : decode cX2_init 115 = .ok (.iconst 1, 1) := by decide +kernel
theorem dX2_init_116 : decode cX2_init 116 = .ok (.isub, 1) := by decide +kernel
theorem dX2_init_117 : decode cX2_init 117 = .ok (.istore 5, 2) := by decide +kernel
theorem dX2_init_119 : decode cX2_init 119 = .ok (.iload 5, 2) := by decide +kernel
theorem dX2_init_121 : decode cX2_init 121 = .ok (.ifCond .lt 40, 3) := by decide +kernel
theorem dX2_init_124 : decode cX2_init 124 = .ok (.iload_n 3, 1) := by decide +kernel
theorem dX2_init_125 : decode cX2_init 125 = .ok (.iconst 5, 1) := by decide +kernel
theorem dX2_init_126 : decode cX2_init 126 = .ok (.irem, 1) := by decide +kernel
theorem dX2_init_127 : decode cX2_init 127 = .ok (.iconst 1, 1) := by decide +kernel
theorem dX2_init_128 : decode cX2_init 128 = .ok (.isub, 1) := by decide +kernel
theorem dX2_init_129 : decode cX2_init 129 = .ok (.istore 6, 2) := by decide +kernel
theorem dX2_init_131 : decode cX2_init 131 = .ok (.aload_n 0, 1) := by decide +kernel
theorem dX2_init_132 : decode cX2_init 132 = .ok (.getfield 14, 3) := by decide +kernel
theorem dX2_init_135 : decode cX2_init 135 = .ok (.iload 5, 2) := by decide +kernel
theorem dX2_init_137 : decode cX2_init 137 = .ok (.iload 6, 2) := by decide +kernel
theorem dX2_init_139 : decode cX2_init 139 = .ok (.invokevirtual 40, 3) := by decide +kernel
theorem dX2_init_142 : decode cX2_init 142 = .ok (.iload 4, 2) := by decide +kernel
theorem dX2_init_144 : decode cX2_init 144 = .ok (.iload 6, 2) := by decide +kernel
theorem dX2_init_146 : decode cX2_init 146 = .ok (.invokestatic 44, 3) := by decide +kernel
theorem dX2_init_149 : decode cX2_init 149 = .ok (.istore 4, 2) := by decide +kernel
theorem dX2_init_151 : decode cX2_init 151 = .ok (.iload_n 3, 1) := by decide +kernel
theorem dX2_init_152 : decode cX2_init 152 = .ok (.iconst 5, 1) := by decide +kernel
theorem dX2_init_153 : decode cX2_init 153 = .ok (.idiv, 1) := by decide +kernel
theorem dX2_init_154 : decode cX2_init 154 = .ok (.istore_n 3, 1) := by decide +kernel
theorem dX2_init_155 : decode cX2_init 155 = .ok (.iinc 5 (-1), 3) := by decide +kernel
theorem dX2_init_158 : decode cX2_init 158 = .ok (.goto (-39), 3) := by decide +kernel
theorem dX2_init_161 : decode cX2_init 161 = .ok (.aload_n 0, 1) := by decide +kernel
theorem dX2_init_162 : decode cX2_init 162 = .ok (.iload 4, 2) := by decide +kernel
theorem dX2_init_164 : decode cX2_init 164 = .ok (.putfield 48, 3) := by decide +kernel
theorem dX2_init_167 : decode cX2_init 167 = .ok (.return_, 1) := by decide +kernel
theorem dX2_isKey_0 : decode cX2_isKey 0 = .ok (.iload_n 0, 1) := by decide +kernel
theorem dX2_isKey_1 : decode cX2_isKey 1 = .ok (.iconst 1, 1) := by decide +kernel
theorem dX2_isKey_2 : decode cX2_isKey 2 = .ok (.if_icmp .lt 9, 3) := by decide +kernel
theorem dX2_isKey_5 : decode cX2_isKey 5 = .ok (.iload_n 0, 1) := by decide +kernel
theorem dX2_isKey_6 : decode cX2_isKey 6 = .ok (.bipush 124, 2) := by decide +kernel
theorem dX2_isKey_8 : decode cX2_isKey 8 = .ok (.if_icmp .le 5, 3) := by decide +kernel
theorem dX2_isKey_11 : decode cX2_isKey 11 = .ok (.iconst 0, 1) := by decide +kernel
theorem dX2_isKey_12 : decode cX2_isKey 12 = .ok (.ireturn, 1) := by decide +kernel
theorem dX2_isKey_13 : decode cX2_isKey 13 = .ok (.iconst 0, 1) := by decide +kernel
theorem dX2_isKey_14 : decode cX2_isKey 14 = .ok (.istore_n 1, 1) := by decide +kernel
theorem dX2_isKey_15 : decode cX2_isKey 15 = .ok (.iload_n 0, 1) := by decide +kernel
theorem dX2_isKey_16 : decode cX2_isKey 16 = .ok (.istore_n 2, 1) := by decide +kernel
theorem dX2_isKey_17 : decode cX2_isKey 17 = .ok (.iconst 0, 1) := by decide +kernel
theorem dX2_isKey_18 : decode cX2_isKey 18 = .ok (.istore_n 3, 1) := by decide +kernel
theorem dX2_isKey_19 : decode cX2_isKey 19 = .ok (.iload_n 3, 1) := by decide +kernel
theorem dX2_isKey_20 : decode cX2_isKey 20 = .ok (.iconst 3, 1) := by decide +kernel
theorem dX2_isKey_21 : decode cX2_isKey 21 = .ok (.if_icmp .ge 45, 3) := by decide +kernel
theorem dX2_isKey_24 : decode cX2_isKey 24 = .ok (.iload_n 2, 1) := by decide +kernel
theorem dX2_isKey_25 : decode cX2_isKey 25 = .ok (.ifCond .le 41, 3) := by decide +kernel
theorem dX2_isKey_28 : decode cX2_isKey 28 = .ok (.iload_n 2, 1) := by decide +kernel
theorem dX2_isKey_29 : decode cX2_isKey 29 = .ok (.iconst 5, 1) := by decide +kernel
theorem dX2_isKey_30 : decode cX2_isKey 30 = .ok (.irem, 1) := by decide +kernel
theorem dX2_isKey_31 : decode cX2_isKey 31 = .ok (.istore 4, 2) := by decide +kernel
theorem dX2_isKey_33 : decode cX2_isKey 33 = .ok (.iload 4, 2) := by decide +kernel
theorem dX2_isKey_35 : decode cX2_isKey 35 = .ok (.ifCond .eq 12, 3) := by decide +kernel
theorem dX2_isKey_38 : decode cX2_isKey 38 = .ok (.iload_n 1, 1) := by decide +kernel
theorem dX2_isKey_39 : decode cX2_isKey 39 = .ok (.iload 4, 2) := by decide +kernel
theorem dX2_isKey_41 : decode cX2_isKey 41 = .ok (.invokestatic 51, 3) := by decide +kernel
theorem dX2_isKey_44 : decode cX2_isKey 44 = .ok (.ifCond .eq 5, 3) := by decide +kernel
theorem dX2_isKey_47 : decode cX2_isKey 47 = .ok (.iconst 0, 1) := by decide +kernel
theorem dX2_isKey_48 : decode cX2_isKey 48 = .ok (.ireturn, 1) := by decide +kernel
theorem dX2_isKey_49 : decode cX2_isKey 49 = .ok (.iload_n 1, 1) := by decide +kernel
theorem dX2_isKey_50 : decode cX2_isKey 50 = .ok (.iload 4, 2) := by decide +kernel
theorem dX2_isKey_52 : decode cX2_isKey 52 = .ok (.invokestatic 44, 3) := by decide +kernel
theorem dX2_isKey_55 : decode cX2_isKey 55 = .ok (.istore_n 1, 1) := by decide +kernel
theorem dX2_isKey_56 : decode cX2_isKey 56 = .ok (.iload_n 2, 1) := by decide +kernel
theorem dX2_isKey_57 : decode cX2_isKey 57 = .ok (.iconst 5, 1) := by decide +kernel
theorem dX2_isKey_58 : decode cX2_isKey 58 = .ok (.idiv, 1) := by decide +kernel
theorem dX2_isKey_59 : decode cX2_isKey 59 = .ok (.istore_n 2, 1) := by decide +kernel
theorem dX2_isKey_60 : decode cX2_isKey 60 = .ok (.iinc 3 1, 3) := by decide +kernel
theorem dX2_isKey_63 : decode cX2_isKey 63 = .ok (.goto (-44), 3) := by decide +kernel
theorem dX2_isKey_66 : decode cX2_isKey 66 = .ok (.iconst 1, 1) := by decide +kernel
theorem dX2_isKey_67 : decode cX2_isKey 67 = .ok (.ireturn, 1) := by decide +kernel
theorem dX2_key_0 : decode cX2_key 0 = .ok (.aload_n 0, 1) := by decide +kernel
theorem dX2_key_1 : decode cX2_key 1 = .ok (.getfield 30, 3) := by decide +kernel
theorem dX2_key_4 : decode cX2_key 4 = .ok (.ireturn, 1) := by decide +kernel
theorem dX2_columns_0 : decode cX2_columns 0 = .ok (.aload_n 0, 1) := by decide +kernel
theorem dX2_columns_1 : decode cX2_columns 1 = .ok (.getfield 48, 3) := by decide +kernel
theorem dX2_columns_4 : decode cX2_columns 4 = .ok (.ireturn, 1) := by decide +kernel
theorem dX2_leaves_0 : decode cX2_leaves 0 = .ok (.aload_n 0, 1) := by decide +kernel
theorem dX2_leaves_1 : decode cX2_leaves 1 = .ok (.getfield 58, 3) := by decide +kernel
theorem dX2_leaves_4 : decode cX2_leaves 4 = .ok (.ireturn, 1) := by decide +kernel
theorem dX2_cuts_0 : decode cX2_cuts 0 = .ok (.aload_n 0, 1) := by decide +kernel
theorem dX2_cuts_1 : decode cX2_cuts 1 = .ok (.getfield 61, 3) := by decide +kernel
theorem dX2_cuts_4 : decode cX2_cuts 4 = .ok (.ireturn, 1) := by decide +kernel
theorem dX2_isDropped_0 : decode cX2_isDropped 0 = .ok (.aload_n 0, 1) := by decide +kernel
theorem dX2_isDropped_1 : decode cX2_isDropped 1 = .ok (.getfield 64, 3) := by decide +kernel
theorem dX2_isDropped_4 : decode cX2_isDropped 4 = .ok (.ireturn, 1) := by decide +kernel
theorem dX2_slotAt_0 : decode cX2_slotAt 0 = .ok (.iload_n 1, 1) := by decide +kernel
theorem dX2_slotAt_1 : decode cX2_slotAt 1 = .ok (.ifCond .lt 22, 3) := by decide +kernel
theorem dX2_slotAt_4 : decode cX2_slotAt 4 = .ok (.iload_n 1, 1) := by decide +kernel
theorem dX2_slotAt_5 : decode cX2_slotAt 5 = .ok (.aload_n 0, 1) := by decide +kernel
theorem dX2_slotAt_6 : decode cX2_slotAt 6 = .ok (.getfield 55, 3) := by decide +kernel
theorem dX2_slotAt_9 : decode cX2_slotAt 9 = .ok (.if_icmp .ge 14, 3) := by decide +kernel
theorem dX2_slotAt_12 : decode cX2_slotAt 12 = .ok (.aload_n 0, 1) := by decide +kernel
theorem dX2_slotAt_13 : decode cX2_slotAt 13 = .ok (.getfield 20, 3) := by decide +kernel
theorem dX2_slotAt_16 : decode cX2_slotAt 16 = .ok (.iload_n 1, 1) := by decide +kernel
theorem dX2_slotAt_17 : decode cX2_slotAt 17 = .ok (.invokevirtual 68, 3) := by decide +kernel
theorem dX2_slotAt_20 : decode cX2_slotAt 20 = .ok (.goto 4, 3) := by decide +kernel
theorem dX2_slotAt_23 : decode cX2_slotAt 23 = .ok (.iconst (-1), 1) := by decide +kernel
theorem dX2_slotAt_24 : decode cX2_slotAt 24 = .ok (.ireturn, 1) := by decide +kernel
theorem dX2_entriesInLeaf_0 : decode cX2_entriesInLeaf 0 = .ok (.iload_n 1, 1) := by decide +kernel
theorem dX2_entriesInLeaf_1 : decode cX2_entriesInLeaf 1 = .ok (.ifCond .lt 22, 3) := by decide +kernel
theorem dX2_entriesInLeaf_4 : decode cX2_entriesInLeaf 4 = .ok (.iload_n 1, 1) := by decide +kernel
theorem dX2_entriesInLeaf_5 : decode cX2_entriesInLeaf 5 = .ok (.aload_n 0, 1) := by decide +kernel
theorem dX2_entriesInLeaf_6 : decode cX2_entriesInLeaf 6 = .ok (.getfield 58, 3) := by decide +kernel
theorem dX2_entriesInLeaf_9 : decode cX2_entriesInLeaf 9 = .ok (.if_icmp .ge 14, 3) := by decide +kernel
theorem dX2_entriesInLeaf_12 : decode cX2_entriesInLeaf 12 = .ok (.aload_n 0, 1) := by decide +kernel
theorem dX2_entriesInLeaf_13 : decode cX2_entriesInLeaf 13 = .ok (.getfield 23, 3) := by decide +kernel
theorem dX2_entriesInLeaf_16 : decode cX2_entriesInLeaf 16 = .ok (.iload_n 1, 1) := by decide +kernel
theorem dX2_entriesInLeaf_17 : decode cX2_entriesInLeaf 17 = .ok (.invokevirtual 68, 3) := by decide +kernel
theorem dX2_entriesInLeaf_20 : decode cX2_entriesInLeaf 20 = .ok (.goto 4, 3) := by decide +kernel
theorem dX2_entriesInLeaf_23 : decode cX2_entriesInLeaf 23 = .ok (.iconst (-1), 1) := by decide +kernel
theorem dX2_entriesInLeaf_24 : decode cX2_entriesInLeaf 24 = .ok (.ireturn, 1) := by decide +kernel
theorem dX2_height_0 : decode cX2_height 0 = .ok (.iconst 0, 1) := by decide +kernel
theorem dX2_height_1 : decode cX2_height 1 = .ok (.istore_n 1, 1) := by decide +kernel
theorem dX2_height_2 : decode cX2_height 2 = .ok (.aload_n 0, 1) := by decide +kernel
theorem dX2_height_3 : decode cX2_height 3 = .ok (.getfield 58, 3) := by decide +kernel
theorem dX2_height_6 : decode cX2_height 6 = .ok (.istore_n 2, 1) := by decide +kernel
theorem dX2_height_7 : decode cX2_height 7 = .ok (.iload_n 2, 1) := by decide +kernel
theorem dX2_height_8 : decode cX2_height 8 = .ok (.iconst 1, 1) := by decide +kernel
theorem dX2_height_9 : decode cX2_height 9 = .ok (.if_icmp .le 21, 3) := by decide +kernel
theorem dX2_height_12 : decode cX2_height 12 = .ok (.iload_n 1, 1) := by decide +kernel
theorem dX2_height_13 : decode cX2_height 13 = .ok (.bipush 64, 2) := by decide +kernel
theorem dX2_height_15 : decode cX2_height 15 = .ok (.if_icmp .ge 15, 3) := by decide +kernel
theorem dX2_height_18 : decode cX2_height 18 = .ok (.iinc 1 1, 3) := by decide +kernel
theorem dX2_height_21 : decode cX2_height 21 = .ok (.iload_n 2, 1) := by decide +kernel
theorem dX2_height_22 : decode cX2_height 22 = .ok (.iconst 4, 1) := by decide +kernel
theorem dX2_height_23 : decode cX2_height 23 = .ok (.invokestatic 72, 3) := by decide +kernel
theorem dX2_height_26 : decode cX2_height 26 = .ok (.istore_n 2, 1) := by decide +kernel
theorem dX2_height_27 : decode cX2_height 27 = .ok (.goto (-20), 3) := by decide +kernel
theorem dX2_height_30 : decode cX2_height 30 = .ok (.iload_n 1, 1) := by decide +kernel
theorem dX2_height_31 : decode cX2_height 31 = .ok (.ireturn, 1) := by decide +kernel
theorem dX2_size_0 : decode cX2_size 0 = .ok (.aload_n 0, 1) := by decide +kernel
theorem dX2_size_1 : decode cX2_size 1 = .ok (.getfield 58, 3) := by decide +kernel
theorem dX2_size_4 : decode cX2_size 4 = .ok (.istore_n 1, 1) := by decide +kernel
theorem dX2_size_5 : decode cX2_size 5 = .ok (.aload_n 0, 1) := by decide +kernel
theorem dX2_size_6 : decode cX2_size 6 = .ok (.getfield 58, 3) := by decide +kernel
theorem dX2_size_9 : decode cX2_size 9 = .ok (.istore_n 2, 1) := by decide +kernel
theorem dX2_size_10 : decode cX2_size 10 = .ok (.aload_n 0, 1) := by decide +kernel
theorem dX2_size_11 : decode cX2_size 11 = .ok (.invokevirtual 75, 3) := by decide +kernel
theorem dX2_size_14 : decode cX2_size 14 = .ok (.istore_n 3, 1) := by decide +kernel
theorem dX2_size_15 : decode cX2_size 15 = .ok (.iload_n 3, 1) := by decide +kernel
theorem dX2_size_16 : decode cX2_size 16 = .ok (.ifCond .le 19, 3) := by decide +kernel
theorem dX2_size_19 : decode cX2_size 19 = .ok (.iload_n 2, 1) := by decide +kernel
theorem dX2_size_20 : decode cX2_size 20 = .ok (.iconst 4, 1) := by decide +kernel
theorem dX2_size_21 : decode cX2_size 21 = .ok (.invokestatic 72, 3) := by decide +kernel
theorem dX2_size_24 : decode cX2_size 24 = .ok (.istore_n 2, 1) := by decide +kernel
theorem dX2_size_25 : decode cX2_size 25 = .ok (.iload_n 1, 1) := by decide +kernel
theorem dX2_size_26 : decode cX2_size 26 = .ok (.iload_n 2, 1) := by decide +kernel
theorem dX2_size_27 : decode cX2_size 27 = .ok (.iadd, 1) := by decide +kernel
theorem dX2_size_28 : decode cX2_size 28 = .ok (.istore_n 1, 1) := by decide +kernel
theorem dX2_size_29 : decode cX2_size 29 = .ok (.iinc 3 (-1), 3) := by decide +kernel
theorem dX2_size_32 : decode cX2_size 32 = .ok (.goto (-17), 3) := by decide +kernel
theorem dX2_size_35 : decode cX2_size 35 = .ok (.iload_n 1, 1) := by decide +kernel
theorem dX2_size_36 : decode cX2_size 36 = .ok (.ireturn, 1) := by decide +kernel
theorem dX2_rebuild_0 : decode cX2_rebuild 0 = .ok (.aload_n 0, 1) := by decide +kernel
theorem dX2_rebuild_1 : decode cX2_rebuild 1 = .ok (.iconst 0, 1) := by decide +kernel
theorem dX2_rebuild_2 : decode cX2_rebuild 2 = .ok (.putfield 55, 3) := by decide +kernel
theorem dX2_rebuild_5 : decode cX2_rebuild 5 = .ok (.iconst 0, 1) := by decide +kernel
theorem dX2_rebuild_6 : decode cX2_rebuild 6 = .ok (.istore_n 1, 1) := by decide +kernel
theorem dX2_rebuild_7 : decode cX2_rebuild 7 = .ok (.iload_n 1, 1) := by decide +kernel
theorem dX2_rebuild_8 : decode cX2_rebuild 8 = .ok (.bipush 64, 2) := by decide +kernel
theorem dX2_rebuild_10 : decode cX2_rebuild 10 = .ok (.if_icmp .ge 47, 3) := by decide +kernel
theorem dX2_rebuild_13 : decode cX2_rebuild 13 = .ok (.aload_n 0, 1) := by decide +kernel
theorem dX2_rebuild_14 : decode cX2_rebuild 14 = .ok (.getfield 26, 3) := by decide +kernel
theorem dX2_rebuild_17 : decode cX2_rebuild 17 = .ok (.iload_n 1, 1) := by decide +kernel
theorem dX2_rebuild_18 : decode cX2_rebuild 18 = .ok (.invokevirtual 79, 3) := by decide +kernel
theorem dX2_rebuild_21 : decode cX2_rebuild 21 = .ok (.ifCond .eq 30, 3) := by decide +kernel
theorem dX2_rebuild_24 : decode cX2_rebuild 24 = .ok (.aload_n 0, 1) := by decide +kernel
theorem dX2_rebuild_25 : decode cX2_rebuild 25 = .ok (.getfield 20, 3) := by decide +kernel
theorem dX2_rebuild_28 : decode cX2_rebuild 28 = .ok (.aload_n 0, 1) := by decide +kernel
theorem dX2_rebuild_29 : decode cX2_rebuild 29 = .ok (.iload_n 1, 1) := by decide +kernel
theorem dX2_rebuild_30 : decode cX2_rebuild 30 = .ok (.invokevirtual 85, 3) := by decide +kernel
theorem dX2_rebuild_33 : decode cX2_rebuild 33 = .ok (.aload_n 0, 1) := by decide +kernel
theorem dX2_rebuild_34 : decode cX2_rebuild 34 = .ok (.getfield 55, 3) := by decide +kernel
theorem dX2_rebuild_37 : decode cX2_rebuild 37 = .ok (.iload_n 1, 1) := by decide +kernel
theorem dX2_rebuild_38 : decode cX2_rebuild 38 = .ok (.invokevirtual 88, 3) := by decide +kernel
theorem dX2_rebuild_41 : decode cX2_rebuild 41 = .ok (.aload_n 0, 1) := by decide +kernel
theorem dX2_rebuild_42 : decode cX2_rebuild 42 = .ok (.dup, 1) := by decide +kernel
theorem dX2_rebuild_43 : decode cX2_rebuild 43 = .ok (.getfield 55, 3) := by decide +kernel
theorem dX2_rebuild_46 : decode cX2_rebuild 46 = .ok (.iconst 1, 1) := by decide +kernel
theorem dX2_rebuild_47 : decode cX2_rebuild 47 = .ok (.iadd, 1) := by decide +kernel
theorem dX2_rebuild_48 : decode cX2_rebuild 48 = .ok (.putfield 55, 3) := by decide +kernel
theorem dX2_rebuild_51 : decode cX2_rebuild 51 = .ok (.iinc 1 1, 3) := by decide +kernel
theorem dX2_rebuild_54 : decode cX2_rebuild 54 = .ok (.goto (-47), 3) := by decide +kernel
theorem dX2_rebuild_57 : decode cX2_rebuild 57 = .ok (.aload_n 0, 1) := by decide +kernel
theorem dX2_rebuild_58 : decode cX2_rebuild 58 = .ok (.invokevirtual 92, 3) := by decide +kernel
theorem dX2_rebuild_61 : decode cX2_rebuild 61 = .ok (.return_, 1) := by decide +kernel
theorem dX2_fillLeaves_0 : decode cX2_fillLeaves 0 = .ok (.aload_n 0, 1) := by decide +kernel
theorem dX2_fillLeaves_1 : decode cX2_fillLeaves 1 = .ok (.iconst 0, 1) := by decide +kernel
theorem dX2_fillLeaves_2 : decode cX2_fillLeaves 2 = .ok (.putfield 58, 3) := by decide +kernel
theorem dX2_fillLeaves_5 : decode cX2_fillLeaves 5 = .ok (.iconst 0, 1) := by decide +kernel
theorem dX2_fillLeaves_6 : decode cX2_fillLeaves 6 = .ok (.istore_n 1, 1) := by decide +kernel
theorem dX2_fillLeaves_7 : decode cX2_fillLeaves 7 = .ok (.iload_n 1, 1) := by decide +kernel
theorem dX2_fillLeaves_8 : decode cX2_fillLeaves 8 = .ok (.aload_n 0, 1) := by decide +kernel
theorem dX2_fillLeaves_9 : decode cX2_fillLeaves 9 = .ok (.getfield 55, 3) := by decide +kernel
theorem dX2_fillLeaves_12 : decode cX2_fillLeaves 12 = .ok (.if_icmp .ge 54, 3) := by decide +kernel
theorem dX2_fillLeaves_15 : decode cX2_fillLeaves 15 = .ok (.aload_n 0, 1) := by decide +kernel
theorem dX2_fillLeaves_16 : decode cX2_fillLeaves 16 = .ok (.getfield 37, 3) := by decide +kernel
theorem dX2_fillLeaves_19 : decode cX2_fillLeaves 19 = .ok (.ifCond .le 47, 3) := by decide +kernel
theorem dX2_fillLeaves_22 : decode cX2_fillLeaves 22 = .ok (.aload_n 0, 1) := by decide +kernel
theorem dX2_fillLeaves_23 : decode cX2_fillLeaves 23 = .ok (.getfield 23, 3) := by decide +kernel
theorem dX2_fillLeaves_26 : decode cX2_fillLeaves 26 = .ok (.aload_n 0, 1) := by decide +kernel
theorem dX2_fillLeaves_27 : decode cX2_fillLeaves 27 = .ok (.getfield 58, 3) := by decide +kernel
theorem dX2_fillLeaves_30 : decode cX2_fillLeaves 30 = .ok (.aload_n 0, 1) := by decide +kernel
theorem dX2_fillLeaves_31 : decode cX2_fillLeaves 31 = .ok (.getfield 37, 3) := by decide +kernel
theorem dX2_fillLeaves_34 : decode cX2_fillLeaves 34 = .ok (.aload_n 0, 1) := by decide +kernel
theorem dX2_fillLeaves_35 : decode cX2_fillLeaves 35 = .ok (.getfield 55, 3) := by decide +kernel
theorem dX2_fillLeaves_38 : decode cX2_fillLeaves 38 = .ok (.iload_n 1, 1) := by decide +kernel
theorem dX2_fillLeaves_39 : decode cX2_fillLeaves 39 = .ok (.isub, 1) := by decide +kernel
theorem dX2_fillLeaves_40 : decode cX2_fillLeaves 40 = .ok (.invokestatic 95, 3) := by decide +kernel
theorem dX2_fillLeaves_43 : decode cX2_fillLeaves 43 = .ok (.invokevirtual 40, 3) := by decide +kernel
theorem dX2_fillLeaves_46 : decode cX2_fillLeaves 46 = .ok (.aload_n 0, 1) := by decide +kernel
theorem dX2_fillLeaves_47 : decode cX2_fillLeaves 47 = .ok (.dup, 1) := by decide +kernel
theorem dX2_fillLeaves_48 : decode cX2_fillLeaves 48 = .ok (.getfield 58, 3) := by decide +kernel
theorem dX2_fillLeaves_51 : decode cX2_fillLeaves 51 = .ok (.iconst 1, 1) := by decide +kernel
theorem dX2_fillLeaves_52 : decode cX2_fillLeaves 52 = .ok (.iadd, 1) := by decide +kernel
theorem dX2_fillLeaves_53 : decode cX2_fillLeaves 53 = .ok (.putfield 58, 3) := by decide +kernel
theorem dX2_fillLeaves_56 : decode cX2_fillLeaves 56 = .ok (.iload_n 1, 1) := by decide +kernel
theorem dX2_fillLeaves_57 : decode cX2_fillLeaves 57 = .ok (.aload_n 0, 1) := by decide +kernel
theorem dX2_fillLeaves_58 : decode cX2_fillLeaves 58 = .ok (.getfield 37, 3) := by decide +kernel
theorem dX2_fillLeaves_61 : decode cX2_fillLeaves 61 = .ok (.iadd, 1) := by decide +kernel
theorem dX2_fillLeaves_62 : decode cX2_fillLeaves 62 = .ok (.istore_n 1, 1) := by decide +kernel
theorem dX2_fillLeaves_63 : decode cX2_fillLeaves 63 = .ok (.goto (-56), 3) := by decide +kernel
theorem dX2_fillLeaves_66 : decode cX2_fillLeaves 66 = .ok (.return_, 1) := by decide +kernel
theorem dX2_entryComes_0 : decode cX2_entryComes 0 = .ok (.aload_n 0, 1) := by decide +kernel
theorem dX2_entryComes_1 : decode cX2_entryComes 1 = .ok (.iload_n 1, 1) := by decide +kernel
theorem dX2_entryComes_2 : decode cX2_entryComes 2 = .ok (.invokevirtual 85, 3) := by decide +kernel
theorem dX2_entryComes_5 : decode cX2_entryComes 5 = .ok (.istore_n 2, 1) := by decide +kernel
theorem dX2_entryComes_6 : decode cX2_entryComes 6 = .ok (.aload_n 0, 1) := by decide +kernel
theorem dX2_entryComes_7 : decode cX2_entryComes 7 = .ok (.iload_n 2, 1) := by decide +kernel
theorem dX2_entryComes_8 : decode cX2_entryComes 8 = .ok (.invokevirtual 100, 3) := by decide +kernel
theorem dX2_entryComes_11 : decode cX2_entryComes 11 = .ok (.istore_n 3, 1) := by decide +kernel
theorem dX2_entryComes_12 : decode cX2_entryComes 12 = .ok (.aload_n 0, 1) := by decide +kernel
theorem dX2_entryComes_13 : decode cX2_entryComes 13 = .ok (.getfield 20, 3) := by decide +kernel
theorem dX2_entryComes_16 : decode cX2_entryComes 16 = .ok (.iload_n 2, 1) := by decide +kernel
theorem dX2_entryComes_17 : decode cX2_entryComes 17 = .ok (.aload_n 0, 1) := by decide +kernel
theorem dX2_entryComes_18 : decode cX2_entryComes 18 = .ok (.getfield 55, 3) := by decide +kernel
theorem dX2_entryComes_21 : decode cX2_entryComes 21 = .ok (.iload_n 1, 1) := by decide +kernel
theorem dX2_entryComes_22 : decode cX2_entryComes 22 = .ok (.invokevirtual 88, 3) := by decide +kernel
theorem dX2_entryComes_25 : decode cX2_entryComes 25 = .ok (.aload_n 0, 1) := by decide +kernel
theorem dX2_entryComes_26 : decode cX2_entryComes 26 = .ok (.dup, 1) := by decide +kernel
theorem dX2_entryComes_27 : decode cX2_entryComes 27 = .ok (.getfield 55, 3) := by decide +kernel
theorem dX2_entryComes_30 : decode cX2_entryComes 30 = .ok (.iconst 1, 1) := by decide +kernel
theorem dX2_entryComes_31 : decode cX2_entryComes 31 = .ok (.iadd, 1) := by decide +kernel
theorem dX2_entryComes_32 : decode cX2_entryComes 32 = .ok (.putfield 55, 3) := by decide +kernel
theorem dX2_entryComes_35 : decode cX2_entryComes 35 = .ok (.aload_n 0, 1) := by decide +kernel
theorem dX2_entryComes_36 : decode cX2_entryComes 36 = .ok (.getfield 58, 3) := by decide +kernel
theorem dX2_entryComes_39 : decode cX2_entryComes 39 = .ok (.ifCond .ne 17, 3) := by decide +kernel
theorem dX2_entryComes_42 : decode cX2_entryComes 42 = .ok (.aload_n 0, 1) := by decide +kernel
theorem dX2_entryComes_43 : decode cX2_entryComes 43 = .ok (.getfield 23, 3) := by decide +kernel
theorem dX2_entryComes_46 : decode cX2_entryComes 46 = .ok (.iconst 0, 1) := by decide +kernel
theorem dX2_entryComes_47 : decode cX2_entryComes 47 = .ok (.iconst 0, 1) := by decide +kernel
theorem dX2_entryComes_48 : decode cX2_entryComes 48 = .ok (.invokevirtual 40, 3) := by decide +kernel
theorem dX2_entryComes_51 : decode cX2_entryComes 51 = .ok (.aload_n 0, 1) := by decide +kernel
theorem dX2_entryComes_52 : decode cX2_entryComes 52 = .ok (.iconst 1, 1) := by decide +kernel
theorem dX2_entryComes_53 : decode cX2_entryComes 53 = .ok (.putfield 58, 3) := by decide +kernel
theorem dX2_entryComes_56 : decode cX2_entryComes 56 = .ok (.aload_n 0, 1) := by decide +kernel
theorem dX2_entryComes_57 : decode cX2_entryComes 57 = .ok (.getfield 23, 3) := by decide +kernel
theorem dX2_entryComes_60 : decode cX2_entryComes 60 = .ok (.iload_n 3, 1) := by decide +kernel
theorem dX2_entryComes_61 : decode cX2_entryComes 61 = .ok (.iconst 1, 1) := by decide +kernel
theorem dX2_entryComes_62 : decode cX2_entryComes 62 = .ok (.invokevirtual 103, 3) := by decide +kernel
theorem dX2_entryComes_65 : decode cX2_entryComes 65 = .ok (.aload_n 0, 1) := by decide +kernel
theorem dX2_entryComes_66 : decode cX2_entryComes 66 = .ok (.getfield 23, 3) := by decide +kernel
theorem dX2_entryComes_69 : decode cX2_entryComes 69 = .ok (.iload_n 3, 1) := by decide +kernel
theorem dX2_entryComes_70 : decode cX2_entryComes 70 = .ok (.invokevirtual 68, 3) := by decide +kernel
theorem dX2_entryComes_73 : decode cX2_entryComes 73 = .ok (.aload_n 0, 1) := by decide +kernel
theorem dX2_entryComes_74 : decode cX2_entryComes 74 = .ok (.getfield 37, 3) := by decide +kernel
theorem dX2_entryComes_77 : decode cX2_entryComes 77 = .ok (.if_icmp .le 8, 3) := by decide +kernel
theorem dX2_entryComes_80 : decode cX2_entryComes 80 = .ok (.aload_n 0, 1) := by decide +kernel
theorem dX2_entryComes_81 : decode cX2_entryComes 81 = .ok (.iload_n 3, 1) := by decide +kernel
theorem dX2_entryComes_82 : decode cX2_entryComes 82 = .ok (.invokevirtual 106, 3) := by decide +kernel
theorem dX2_entryComes_85 : decode cX2_entryComes 85 = .ok (.return_, 1) := by decide +kernel
theorem dX2_entryGoes_0 : decode cX2_entryGoes 0 = .ok (.aload_n 0, 1) := by decide +kernel
theorem dX2_entryGoes_1 : decode cX2_entryGoes 1 = .ok (.getfield 20, 3) := by decide +kernel
theorem dX2_entryGoes_4 : decode cX2_entryGoes 4 = .ok (.iload_n 1, 1) := by decide +kernel
theorem dX2_entryGoes_5 : decode cX2_entryGoes 5 = .ok (.aload_n 0, 1) := by decide +kernel
theorem dX2_entryGoes_6 : decode cX2_entryGoes 6 = .ok (.getfield 55, 3) := by decide +kernel
theorem dX2_entryGoes_9 : decode cX2_entryGoes 9 = .ok (.invokevirtual 109, 3) := by decide +kernel
theorem dX2_entryGoes_12 : decode cX2_entryGoes 12 = .ok (.istore_n 2, 1) := by decide +kernel
theorem dX2_entryGoes_13 : decode cX2_entryGoes 13 = .ok (.iload_n 2, 1) := by decide +kernel
theorem dX2_entryGoes_14 : decode cX2_entryGoes 14 = .ok (.iconst (-1), 1) := by decide +kernel
theorem dX2_entryGoes_15 : decode cX2_entryGoes 15 = .ok (.if_icmp .ne 4, 3) := by decide +kernel
theorem dX2_entryGoes_18 : decode cX2_entryGoes 18 = .ok (.return_, 1) := by decide +kernel
theorem dX2_entryGoes_19 : decode cX2_entryGoes 19 = .ok (.aload_n 0, 1) := by decide +kernel
theorem dX2_entryGoes_20 : decode cX2_entryGoes 20 = .ok (.iload_n 2, 1) := by decide +kernel
theorem dX2_entryGoes_21 : decode cX2_entryGoes 21 = .ok (.invokevirtual 112, 3) := by decide +kernel
theorem dX2_entryGoes_24 : decode cX2_entryGoes 24 = .ok (.istore_n 3, 1) := by decide +kernel
theorem dX2_entryGoes_25 : decode cX2_entryGoes 25 = .ok (.aload_n 0, 1) := by decide +kernel
theorem dX2_entryGoes_26 : decode cX2_entryGoes 26 = .ok (.getfield 20, 3) := by decide +kernel
theorem dX2_entryGoes_29 : decode cX2_entryGoes 29 = .ok (.iload_n 2, 1) := by decide +kernel
theorem dX2_entryGoes_30 : decode cX2_entryGoes 30 = .ok (.aload_n 0, 1) := by decide +kernel
theorem dX2_entryGoes_31 : decode cX2_entryGoes 31 = .ok (.getfield 55, 3) := by decide +kernel
theorem dX2_entryGoes_34 : decode cX2_entryGoes 34 = .ok (.invokevirtual 115, 3) := by decide +kernel
theorem dX2_entryGoes_37 : decode cX2_entryGoes 37 = .ok (.aload_n 0, 1) := by decide +kernel
theorem dX2_entryGoes_38 : decode cX2_entryGoes 38 = .ok (.dup, 1) := by decide +kernel
theorem dX2_entryGoes_39 : decode cX2_entryGoes 39 = .ok (.getfield 55, 3) := by decide +kernel
theorem dX2_entryGoes_42 : decode cX2_entryGoes 42 = .ok (.iconst 1, 1) := by decide +kernel
theorem dX2_entryGoes_43 : decode cX2_entryGoes 43 = .ok (.isub, 1) := by decide +kernel
theorem dX2_entryGoes_44 : decode cX2_entryGoes 44 = .ok (.putfield 55, 3) := by decide +kernel
theorem dX2_entryGoes_47 : decode cX2_entryGoes 47 = .ok (.aload_n 0, 1) := by decide +kernel
theorem dX2_entryGoes_48 : decode cX2_entryGoes 48 = .ok (.getfield 23, 3) := by decide +kernel
theorem dX2_entryGoes_51 : decode cX2_entryGoes 51 = .ok (.iload_n 3, 1) := by decide +kernel
theorem dX2_entryGoes_52 : decode cX2_entryGoes 52 = .ok (.iconst (-1), 1) := by decide +kernel
theorem dX2_entryGoes_53 : decode cX2_entryGoes 53 = .ok (.invokevirtual 103, 3) := by decide +kernel
theorem dX2_entryGoes_56 : decode cX2_entryGoes 56 = .ok (.aload_n 0, 1) := by decide +kernel
theorem dX2_entryGoes_57 : decode cX2_entryGoes 57 = .ok (.getfield 23, 3) := by decide +kernel
theorem dX2_entryGoes_60 : decode cX2_entryGoes 60 = .ok (.iload_n 3, 1) := by decide +kernel
theorem dX2_entryGoes_61 : decode cX2_entryGoes 61 = .ok (.invokevirtual 68, 3) := by decide +kernel
theorem dX2_entryGoes_64 : decode cX2_entryGoes 64 = .ok (.ifCond .ne 25, 3) := by decide +kernel
theorem dX2_entryGoes_67 : decode cX2_entryGoes 67 = .ok (.aload_n 0, 1) := by decide +kernel
theorem dX2_entryGoes_68 : decode cX2_entryGoes 68 = .ok (.getfield 23, 3) := by decide +kernel
theorem dX2_entryGoes_71 : decode cX2_entryGoes 71 = .ok (.iload_n 3, 1) := by decide +kernel
theorem dX2_entryGoes_72 : decode cX2_entryGoes 72 = .ok (.aload_n 0, 1) := by decide +kernel
theorem dX2_entryGoes_73 : decode cX2_entryGoes 73 = .ok (.getfield 58, 3) := by decide +kernel
theorem dX2_entryGoes_76 : decode cX2_entryGoes 76 = .ok (.invokevirtual 115, 3) := by decide +kernel
theorem dX2_entryGoes_79 : decode cX2_entryGoes 79 = .ok (.aload_n 0, 1) := by decide +kernel
theorem dX2_entryGoes_80 : decode cX2_entryGoes 80 = .ok (.dup, 1) := by decide +kernel
theorem dX2_entryGoes_81 : decode cX2_entryGoes 81 = .ok (.getfield 58, 3) := by decide +kernel
theorem dX2_entryGoes_84 : decode cX2_entryGoes 84 = .ok (.iconst 1, 1) := by decide +kernel
theorem dX2_entryGoes_85 : decode cX2_entryGoes 85 = .ok (.isub, 1) := by decide +kernel
theorem dX2_entryGoes_86 : decode cX2_entryGoes 86 = .ok (.putfield 58, 3) := by decide +kernel
theorem dX2_entryGoes_89 : decode cX2_entryGoes 89 = .ok (.return_, 1) := by decide +kernel
theorem dX2_cut_0 : decode cX2_cut 0 = .ok (.aload_n 0, 1) := by decide +kernel
theorem dX2_cut_1 : decode cX2_cut 1 = .ok (.getfield 23, 3) := by decide +kernel
theorem dX2_cut_4 : decode cX2_cut 4 = .ok (.iload_n 1, 1) := by decide +kernel
theorem dX2_cut_5 : decode cX2_cut 5 = .ok (.invokevirtual 68, 3) := by decide +kernel
theorem dX2_cut_8 : decode cX2_cut 8 = .ok (.istore_n 2, 1) := by decide +kernel
theorem dX2_cut_9 : decode cX2_cut 9 = .ok (.iload_n 2, 1) := by decide +kernel
theorem dX2_cut_10 : decode cX2_cut 10 = .ok (.iconst 2, 1) := by decide +kernel
theorem dX2_cut_11 : decode cX2_cut 11 = .ok (.invokestatic 72, 3) := by decide +kernel
theorem dX2_cut_14 : decode cX2_cut 14 = .ok (.istore_n 3, 1) := by decide +kernel
theorem dX2_cut_15 : decode cX2_cut 15 = .ok (.aload_n 0, 1) := by decide +kernel
theorem dX2_cut_16 : decode cX2_cut 16 = .ok (.getfield 23, 3) := by decide +kernel
theorem dX2_cut_19 : decode cX2_cut 19 = .ok (.iload_n 1, 1) := by decide +kernel
theorem dX2_cut_20 : decode cX2_cut 20 = .ok (.iload_n 3, 1) := by decide +kernel
theorem dX2_cut_21 : decode cX2_cut 21 = .ok (.invokevirtual 40, 3) := by decide +kernel
theorem dX2_cut_24 : decode cX2_cut 24 = .ok (.aload_n 0, 1) := by decide +kernel
theorem dX2_cut_25 : decode cX2_cut 25 = .ok (.getfield 23, 3) := by decide +kernel
theorem dX2_cut_28 : decode cX2_cut 28 = .ok (.iload_n 1, 1) := by decide +kernel
theorem dX2_cut_29 : decode cX2_cut 29 = .ok (.iconst 1, 1) := by decide +kernel
theorem dX2_cut_30 : decode cX2_cut 30 = .ok (.iadd, 1) := by decide +kernel
theorem dX2_cut_31 : decode cX2_cut 31 = .ok (.aload_n 0, 1) := by decide +kernel
theorem dX2_cut_32 : decode cX2_cut 32 = .ok (.getfield 58, 3) := by decide +kernel
theorem dX2_cut_35 : decode cX2_cut 35 = .ok (.iload_n 2, 1) := by decide +kernel
theorem dX2_cut_36 : decode cX2_cut 36 = .ok (.iload_n 3, 1) := by decide +kernel
theorem dX2_cut_37 : decode cX2_cut 37 = .ok (.isub, 1) := by decide +kernel
theorem dX2_cut_38 : decode cX2_cut 38 = .ok (.invokevirtual 88, 3) := by decide +kernel
theorem dX2_cut_41 : decode cX2_cut 41 = .ok (.aload_n 0, 1) := by decide +kernel
theorem dX2_cut_42 : decode cX2_cut 42 = .ok (.dup, 1) := by decide +kernel
theorem dX2_cut_43 : decode cX2_cut 43 = .ok (.getfield 58, 3) := by decide +kernel
theorem dX2_cut_46 : decode cX2_cut 46 = .ok (.iconst 1, 1) := by decide +kernel
theorem dX2_cut_47 : decode cX2_cut 47 = .ok (.iadd, 1) := by decide +kernel
theorem dX2_cut_48 : decode cX2_cut 48 = .ok (.putfield 58, 3) := by decide +kernel
theorem dX2_cut_51 : decode cX2_cut 51 = .ok (.aload_n 0, 1) := by decide +kernel
theorem dX2_cut_52 : decode cX2_cut 52 = .ok (.dup, 1) := by decide +kernel
theorem dX2_cut_53 : decode cX2_cut 53 = .ok (.getfield 61, 3) := by decide +kernel
theorem dX2_cut_56 : decode cX2_cut 56 = .ok (.iconst 1, 1) := by decide +kernel
theorem dX2_cut_57 : decode cX2_cut 57 = .ok (.iadd, 1) := by decide +kernel
theorem dX2_cut_58 : decode cX2_cut 58 = .ok (.putfield 61, 3) := by decide +kernel
theorem dX2_cut_61 : decode cX2_cut 61 = .ok (.return_, 1) := by decide +kernel
theorem dX2_leafAt_0 : decode cX2_leafAt 0 = .ok (.iconst 0, 1) := by decide +kernel
theorem dX2_leafAt_1 : decode cX2_leafAt 1 = .ok (.istore_n 2, 1) := by decide +kernel
theorem dX2_leafAt_2 : decode cX2_leafAt 2 = .ok (.iconst 0, 1) := by decide +kernel
theorem dX2_leafAt_3 : decode cX2_leafAt 3 = .ok (.istore_n 3, 1) := by decide +kernel
theorem dX2_leafAt_4 : decode cX2_leafAt 4 = .ok (.iload_n 3, 1) := by decide +kernel
theorem dX2_leafAt_5 : decode cX2_leafAt 5 = .ok (.aload_n 0, 1) := by decide +kernel
theorem dX2_leafAt_6 : decode cX2_leafAt 6 = .ok (.getfield 58, 3) := by decide +kernel
theorem dX2_leafAt_9 : decode cX2_leafAt 9 = .ok (.if_icmp .ge 27, 3) := by decide +kernel
theorem dX2_leafAt_12 : decode cX2_leafAt 12 = .ok (.iload_n 2, 1) := by decide +kernel
theorem dX2_leafAt_13 : decode cX2_leafAt 13 = .ok (.aload_n 0, 1) := by decide +kernel
theorem dX2_leafAt_14 : decode cX2_leafAt 14 = .ok (.getfield 23, 3) := by decide +kernel
theorem dX2_leafAt_17 : decode cX2_leafAt 17 = .ok (.iload_n 3, 1) := by decide +kernel
theorem dX2_leafAt_18 : decode cX2_leafAt 18 = .ok (.invokevirtual 68, 3) := by decide +kernel
theorem dX2_leafAt_21 : decode cX2_leafAt 21 = .ok (.iadd, 1) := by decide +kernel
theorem dX2_leafAt_22 : decode cX2_leafAt 22 = .ok (.istore_n 2, 1) := by decide +kernel
theorem dX2_leafAt_23 : decode cX2_leafAt 23 = .ok (.iload_n 1, 1) := by decide +kernel
theorem dX2_leafAt_24 : decode cX2_leafAt 24 = .ok (.iload_n 2, 1) := by decide +kernel
theorem dX2_leafAt_25 : decode cX2_leafAt 25 = .ok (.if_icmp .ge 5, 3) := by decide +kernel
theorem dX2_leafAt_28 : decode cX2_leafAt 28 = .ok (.iload_n 3, 1) := by decide +kernel
theorem dX2_leafAt_29 : decode cX2_leafAt 29 = .ok (.ireturn, 1) := by decide +kernel
theorem dX2_leafAt_30 : decode cX2_leafAt 30 = .ok (.iinc 3 1, 3) := by decide +kernel
theorem dX2_leafAt_33 : decode cX2_leafAt 33 = .ok (.goto (-29), 3) := by decide +kernel
theorem dX2_leafAt_36 : decode cX2_leafAt 36 = .ok (.iconst 0, 1) := by decide +kernel
theorem dX2_leafAt_37 : decode cX2_leafAt 37 = .ok (.ireturn, 1) := by decide +kernel
theorem dX2_leafFor_0 : decode cX2_leafFor 0 = .ok (.iload_n 1, 1) := by decide +kernel
theorem dX2_leafFor_1 : decode cX2_leafFor 1 = .ok (.ifCond .le 13, 3) := by decide +kernel
theorem dX2_leafFor_4 : decode cX2_leafFor 4 = .ok (.aload_n 0, 1) := by decide +kernel
theorem dX2_leafFor_5 : decode cX2_leafFor 5 = .ok (.iload_n 1, 1) := by decide +kernel
theorem dX2_leafFor_6 : decode cX2_leafFor 6 = .ok (.iconst 1, 1) := by decide +kernel
theorem dX2_leafFor_7 : decode cX2_leafFor 7 = .ok (.isub, 1) := by decide +kernel
theorem dX2_leafFor_8 : decode cX2_leafFor 8 = .ok (.invokevirtual 112, 3) := by decide +kernel
theorem dX2_leafFor_11 : decode cX2_leafFor 11 = .ok (.goto 4, 3) := by decide +kernel
theorem dX2_leafFor_14 : decode cX2_leafFor 14 = .ok (.iconst 0, 1) := by decide +kernel
theorem dX2_leafFor_15 : decode cX2_leafFor 15 = .ok (.ireturn, 1) := by decide +kernel
theorem dX2_placeFor_0 : decode cX2_placeFor 0 = .ok (.iconst 0, 1) := by decide +kernel
theorem dX2_placeFor_1 : decode cX2_placeFor 1 = .ok (.istore_n 2, 1) := by decide +kernel
theorem dX2_placeFor_2 : decode cX2_placeFor 2 = .ok (.iload_n 2, 1) := by decide +kernel
theorem dX2_placeFor_3 : decode cX2_placeFor 3 = .ok (.aload_n 0, 1) := by decide +kernel
theorem dX2_placeFor_4 : decode cX2_placeFor 4 = .ok (.getfield 55, 3) := by decide +kernel
theorem dX2_placeFor_7 : decode cX2_placeFor 7 = .ok (.if_icmp .ge 25, 3) := by decide +kernel
theorem dX2_placeFor_10 : decode cX2_placeFor 10 = .ok (.aload_n 0, 1) := by decide +kernel
theorem dX2_placeFor_11 : decode cX2_placeFor 11 = .ok (.aload_n 0, 1) := by decide +kernel
theorem dX2_placeFor_12 : decode cX2_placeFor 12 = .ok (.getfield 20, 3) := by decide +kernel
theorem dX2_placeFor_15 : decode cX2_placeFor 15 = .ok (.iload_n 2, 1) := by decide +kernel
theorem dX2_placeFor_16 : decode cX2_placeFor 16 = .ok (.invokevirtual 68, 3) := by decide +kernel
theorem dX2_placeFor_19 : decode cX2_placeFor 19 = .ok (.iload_n 1, 1) := by decide +kernel
theorem dX2_placeFor_20 : decode cX2_placeFor 20 = .ok (.invokevirtual 118, 3) := by decide +kernel
theorem dX2_placeFor_23 : decode cX2_placeFor 23 = .ok (.ifCond .eq 9, 3) := by decide +kernel
theorem dX2_placeFor_26 : decode cX2_placeFor 26 = .ok (.iinc 2 1, 3) := by decide +kernel
theorem dX2_placeFor_29 : decode cX2_placeFor 29 = .ok (.goto (-27), 3) := by decide +kernel
theorem dX2_placeFor_32 : decode cX2_placeFor 32 = .ok (.iload_n 2, 1) := by decide +kernel
theorem dX2_placeFor_33 : decode cX2_placeFor 33 = .ok (.ireturn, 1) := by decide +kernel
theorem dX2_isAhead_0 : decode cX2_isAhead 0 = .ok (.iconst 0, 1) := by decide +kernel
theorem dX2_isAhead_1 : decode cX2_isAhead 1 = .ok (.istore_n 3, 1) := by decide +kernel
theorem dX2_isAhead_2 : decode cX2_isAhead 2 = .ok (.iload_n 3, 1) := by decide +kernel
theorem dX2_isAhead_3 : decode cX2_isAhead 3 = .ok (.aload_n 0, 1) := by decide +kernel
theorem dX2_isAhead_4 : decode cX2_isAhead 4 = .ok (.getfield 34, 3) := by decide +kernel
theorem dX2_isAhead_7 : decode cX2_isAhead 7 = .ok (.if_icmp .ge 63, 3) := by decide +kernel
theorem dX2_isAhead_10 : decode cX2_isAhead 10 = .ok (.aload_n 0, 1) := by decide +kernel
theorem dX2_isAhead_11 : decode cX2_isAhead 11 = .ok (.getfield 14, 3) := by decide +kernel
theorem dX2_isAhead_14 : decode cX2_isAhead 14 = .ok (.iload_n 3, 1) := by decide +kernel
theorem dX2_isAhead_15 : decode cX2_isAhead 15 = .ok (.invokevirtual 68, 3) := by decide +kernel
theorem dX2_isAhead_18 : decode cX2_isAhead 18 = .ok (.istore 4, 2) := by decide +kernel
theorem dX2_isAhead_20 : decode cX2_isAhead 20 = .ok (.aload_n 0, 1) := by decide +kernel
theorem dX2_isAhead_21 : decode cX2_isAhead 21 = .ok (.getfield 26, 3) := by decide +kernel
theorem dX2_isAhead_24 : decode cX2_isAhead 24 = .ok (.iload_n 1, 1) := by decide +kernel
theorem dX2_isAhead_25 : decode cX2_isAhead 25 = .ok (.iload 4, 2) := by decide +kernel
theorem dX2_isAhead_27 : decode cX2_isAhead 27 = .ok (.invokevirtual 121, 3) := by decide +kernel
theorem dX2_isAhead_30 : decode cX2_isAhead 30 = .ok (.istore 5, 2) := by decide +kernel
theorem dX2_isAhead_32 : decode cX2_isAhead 32 = .ok (.aload_n 0, 1) := by decide +kernel
theorem dX2_isAhead_33 : decode cX2_isAhead 33 = .ok (.getfield 26, 3) := by decide +kernel
theorem dX2_isAhead_36 : decode cX2_isAhead 36 = .ok (.iload_n 2, 1) := by decide +kernel
theorem dX2_isAhead_37 : decode cX2_isAhead 37 = .ok (.iload 4, 2) := by decide +kernel
theorem dX2_isAhead_39 : decode cX2_isAhead 39 = .ok (.invokevirtual 121, 3) := by decide +kernel
theorem dX2_isAhead_42 : decode cX2_isAhead 42 = .ok (.istore 6, 2) := by decide +kernel
theorem dX2_isAhead_44 : decode cX2_isAhead 44 = .ok (.iload 5, 2) := by decide +kernel
theorem dX2_isAhead_46 : decode cX2_isAhead 46 = .ok (.iload 6, 2) := by decide +kernel
theorem dX2_isAhead_48 : decode cX2_isAhead 48 = .ok (.if_icmp .eq 16, 3) := by decide +kernel
theorem dX2_isAhead_51 : decode cX2_isAhead 51 = .ok (.iload 5, 2) := by decide +kernel
theorem dX2_isAhead_53 : decode cX2_isAhead 53 = .ok (.iload 6, 2) := by decide +kernel
theorem dX2_isAhead_55 : decode cX2_isAhead 55 = .ok (.if_icmp .ge 7, 3) := by decide +kernel
theorem dX2_isAhead_58 : decode cX2_isAhead 58 = .ok (.iconst 1, 1) := by decide +kernel
theorem dX2_isAhead_59 : decode cX2_isAhead 59 = .ok (.goto 4, 3) := by decide +kernel
theorem dX2_isAhead_62 : decode cX2_isAhead 62 = .ok (.iconst 0, 1) := by decide +kernel
theorem dX2_isAhead_63 : decode cX2_isAhead 63 = .ok (.ireturn, 1) := by decide +kernel
theorem dX2_isAhead_64 : decode cX2_isAhead 64 = .ok (.iinc 3 1, 3) := by decide +kernel
theorem dX2_isAhead_67 : decode cX2_isAhead 67 = .ok (.goto (-65), 3) := by decide +kernel
theorem dX2_isAhead_70 : decode cX2_isAhead 70 = .ok (.iload_n 1, 1) := by decide +kernel
theorem dX2_isAhead_71 : decode cX2_isAhead 71 = .ok (.iload_n 2, 1) := by decide +kernel
theorem dX2_isAhead_72 : decode cX2_isAhead 72 = .ok (.if_icmp .ge 7, 3) := by decide +kernel
theorem dX2_isAhead_75 : decode cX2_isAhead 75 = .ok (.iconst 1, 1) := by decide +kernel
theorem dX2_isAhead_76 : decode cX2_isAhead 76 = .ok (.goto 4, 3) := by decide +kernel
theorem dX2_isAhead_79 : decode cX2_isAhead 79 = .ok (.iconst 0, 1) := by decide +kernel
theorem dX2_isAhead_80 : decode cX2_isAhead 80 = .ok (.ireturn, 1) := by decide +kernel
theorem dX2_runColumns_0 : decode cX2_runColumns 0 = .ok (.iconst 0, 1) := by decide +kernel
theorem dX2_runColumns_1 : decode cX2_runColumns 1 = .ok (.istore_n 2, 1) := by decide +kernel
theorem dX2_runColumns_2 : decode cX2_runColumns 2 = .ok (.iconst 0, 1) := by decide +kernel
theorem dX2_runColumns_3 : decode cX2_runColumns 3 = .ok (.istore_n 3, 1) := by decide +kernel
theorem dX2_runColumns_4 : decode cX2_runColumns 4 = .ok (.iload_n 3, 1) := by decide +kernel
theorem dX2_runColumns_5 : decode cX2_runColumns 5 = .ok (.aload_n 0, 1) := by decide +kernel
theorem dX2_runColumns_6 : decode cX2_runColumns 6 = .ok (.getfield 34, 3) := by decide +kernel
theorem dX2_runColumns_9 : decode cX2_runColumns 9 = .ok (.if_icmp .ge 50, 3) := by decide +kernel
theorem dX2_runColumns_12 : decode cX2_runColumns 12 = .ok (.aload_n 0, 1) := by decide +kernel
theorem dX2_runColumns_13 : decode cX2_runColumns 13 = .ok (.getfield 14, 3) := by decide +kernel
theorem dX2_runColumns_16 : decode cX2_runColumns 16 = .ok (.iload_n 3, 1) := by decide +kernel
theorem dX2_runColumns_17 : decode cX2_runColumns 17 = .ok (.invokevirtual 68, 3) := by decide +kernel
theorem dX2_runColumns_20 : decode cX2_runColumns 20 = .ok (.istore 4, 2) := by decide +kernel
theorem dX2_runColumns_22 : decode cX2_runColumns 22 = .ok (.aload_n 1, 1) := by decide +kernel
theorem dX2_runColumns_23 : decode cX2_runColumns 23 = .ok (.iload 4, 2) := by decide +kernel
theorem dX2_runColumns_25 : decode cX2_runColumns 25 = .ok (.invokevirtual 124, 3) := by decide +kernel
theorem dX2_runColumns_28 : decode cX2_runColumns 28 = .ok (.ifCond .ne 6, 3) := by decide +kernel
theorem dX2_runColumns_31 : decode cX2_runColumns 31 = .ok (.goto 28, 3) := by decide +kernel
theorem dX2_runColumns_34 : decode cX2_runColumns 34 = .ok (.iload_n 2, 1) := by decide +kernel
theorem dX2_runColumns_35 : decode cX2_runColumns 35 = .ok (.iload 4, 2) := by decide +kernel
theorem dX2_runColumns_37 : decode cX2_runColumns 37 = .ok (.invokestatic 44, 3) := by decide +kernel
theorem dX2_runColumns_40 : decode cX2_runColumns 40 = .ok (.istore_n 2, 1) := by decide +kernel
theorem dX2_runColumns_41 : decode cX2_runColumns 41 = .ok (.aload_n 1, 1) := by decide +kernel
theorem dX2_runColumns_42 : decode cX2_runColumns 42 = .ok (.iload 4, 2) := by decide +kernel
theorem dX2_runColumns_44 : decode cX2_runColumns 44 = .ok (.invokevirtual 129, 3) := by decide +kernel
theorem dX2_runColumns_47 : decode cX2_runColumns 47 = .ok (.ifCond .ne 6, 3) := by decide +kernel
theorem dX2_runColumns_50 : decode cX2_runColumns 50 = .ok (.goto 9, 3) := by decide +kernel
theorem dX2_runColumns_53 : decode cX2_runColumns 53 = .ok (.iinc 3 1, 3) := by decide +kernel
theorem dX2_runColumns_56 : decode cX2_runColumns 56 = .ok (.goto (-52), 3) := by decide +kernel
theorem dX2_runColumns_59 : decode cX2_runColumns 59 = .ok (.iload_n 2, 1) := by decide +kernel
theorem dX2_runColumns_60 : decode cX2_runColumns 60 = .ok (.ireturn, 1) := by decide +kernel
theorem dX2_leavesOf_0 : decode cX2_leavesOf 0 = .ok (.iconst 0, 1) := by decide +kernel
theorem dX2_leavesOf_1 : decode cX2_leavesOf 1 = .ok (.istore_n 3, 1) := by decide +kernel
theorem dX2_leavesOf_2 : decode cX2_leavesOf 2 = .ok (.iconst 0, 1) := by decide +kernel
theorem dX2_leavesOf_3 : decode cX2_leavesOf 3 = .ok (.istore 4, 2) := by decide +kernel
theorem dX2_leavesOf_5 : decode cX2_leavesOf 5 = .ok (.iconst 0, 1) := by decide +kernel
theorem dX2_leavesOf_6 : decode cX2_leavesOf 6 = .ok (.istore 5, 2) := by decide +kernel
theorem dX2_leavesOf_8 : decode cX2_leavesOf 8 = .ok (.iload 5, 2) := by decide +kernel
theorem dX2_leavesOf_10 : decode cX2_leavesOf 10 = .ok (.aload_n 0, 1) := by decide +kernel
theorem dX2_leavesOf_11 : decode cX2_leavesOf 11 = .ok (.getfield 58, 3) := by decide +kernel
theorem dX2_leavesOf_14 : decode cX2_leavesOf 14 = .ok (.if_icmp .ge 42, 3) := by decide +kernel
theorem dX2_leavesOf_17 : decode cX2_leavesOf 17 = .ok (.iload 4, 2) := by decide +kernel
theorem dX2_leavesOf_19 : decode cX2_leavesOf 19 = .ok (.aload_n 0, 1) := by decide +kernel
theorem dX2_leavesOf_20 : decode cX2_leavesOf 20 = .ok (.getfield 23, 3) := by decide +kernel
theorem dX2_leavesOf_23 : decode cX2_leavesOf 23 = .ok (.iload 5, 2) := by decide +kernel
theorem dX2_leavesOf_25 : decode cX2_leavesOf 25 = .ok (.invokevirtual 68, 3) := by decide +kernel
theorem dX2_leavesOf_28 : decode cX2_leavesOf 28 = .ok (.iadd, 1) := by decide +kernel
theorem dX2_leavesOf_29 : decode cX2_leavesOf 29 = .ok (.istore 6, 2) := by decide +kernel
theorem dX2_leavesOf_31 : decode cX2_leavesOf 31 = .ok (.aload_n 0, 1) := by decide +kernel
theorem dX2_leavesOf_32 : decode cX2_leavesOf 32 = .ok (.lload_n 1, 1) := by decide +kernel
theorem dX2_leavesOf_33 : decode cX2_leavesOf 33 = .ok (.iload 4, 2) := by decide +kernel
theorem dX2_leavesOf_35 : decode cX2_leavesOf 35 = .ok (.iload 6, 2) := by decide +kernel
theorem dX2_leavesOf_37 : decode cX2_leavesOf 37 = .ok (.invokevirtual 132, 3) := by decide +kernel
theorem dX2_leavesOf_40 : decode cX2_leavesOf 40 = .ok (.ifCond .eq 6, 3) := by decide +kernel
theorem dX2_leavesOf_43 : decode cX2_leavesOf 43 = .ok (.iinc 3 1, 3) := by decide +kernel
theorem dX2_leavesOf_46 : decode cX2_leavesOf 46 = .ok (.iload 6, 2) := by decide +kernel
theorem dX2_leavesOf_48 : decode cX2_leavesOf 48 = .ok (.istore 4, 2) := by decide +kernel
theorem dX2_leavesOf_50 : decode cX2_leavesOf 50 = .ok (.iinc 5 1, 3) := by decide +kernel
theorem dX2_leavesOf_53 : decode cX2_leavesOf 53 = .ok (.goto (-45), 3) := by decide +kernel
theorem dX2_leavesOf_56 : decode cX2_leavesOf 56 = .ok (.iload_n 3, 1) := by decide +kernel
theorem dX2_leavesOf_57 : decode cX2_leavesOf 57 = .ok (.ifCond .ne 14, 3) := by decide +kernel
theorem dX2_leavesOf_60 : decode cX2_leavesOf 60 = .ok (.aload_n 0, 1) := by decide +kernel
theorem dX2_leavesOf_61 : decode cX2_leavesOf 61 = .ok (.getfield 58, 3) := by decide +kernel
theorem dX2_leavesOf_64 : decode cX2_leavesOf 64 = .ok (.ifCond .le 7, 3) := by decide +kernel
theorem dX2_leavesOf_67 : decode cX2_leavesOf 67 = .ok (.iconst 1, 1) := by decide +kernel
theorem dX2_leavesOf_68 : decode cX2_leavesOf 68 = .ok (.goto 4, 3) := by decide +kernel
theorem dX2_leavesOf_71 : decode cX2_leavesOf 71 = .ok (.iload_n 3, 1) := by decide +kernel
theorem dX2_leavesOf_72 : decode cX2_leavesOf 72 = .ok (.ireturn, 1) := by decide +kernel
theorem dX2_hasSome_0 : decode cX2_hasSome 0 = .ok (.iload_n 3, 1) := by decide +kernel
theorem dX2_hasSome_1 : decode cX2_hasSome 1 = .ok (.istore 5, 2) := by decide +kernel
theorem dX2_hasSome_3 : decode cX2_hasSome 3 = .ok (.iload 5, 2) := by decide +kernel
theorem dX2_hasSome_5 : decode cX2_hasSome 5 = .ok (.iload 4, 2) := by decide +kernel
theorem dX2_hasSome_7 : decode cX2_hasSome 7 = .ok (.if_icmp .ge 27, 3) := by decide +kernel
theorem dX2_hasSome_10 : decode cX2_hasSome 10 = .ok (.lload_n 1, 1) := by decide +kernel
theorem dX2_hasSome_11 : decode cX2_hasSome 11 = .ok (.aload_n 0, 1) := by decide +kernel
theorem dX2_hasSome_12 : decode cX2_hasSome 12 = .ok (.getfield 20, 3) := by decide +kernel
theorem dX2_hasSome_15 : decode cX2_hasSome 15 = .ok (.iload 5, 2) := by decide +kernel
theorem dX2_hasSome_17 : decode cX2_hasSome 17 = .ok (.invokevirtual 68, 3) := by decide +kernel
theorem dX2_hasSome_20 : decode cX2_hasSome 20 = .ok (.invokestatic 136, 3) := by decide +kernel
theorem dX2_hasSome_23 : decode cX2_hasSome 23 = .ok (.ifCond .eq 5, 3) := by decide +kernel
theorem dX2_hasSome_26 : decode cX2_hasSome 26 = .ok (.iconst 1, 1) := by decide +kernel
theorem dX2_hasSome_27 : decode cX2_hasSome 27 = .ok (.ireturn, 1) := by decide +kernel
theorem dX2_hasSome_28 : decode cX2_hasSome 28 = .ok (.iinc 5 1, 3) := by decide +kernel
theorem dX2_hasSome_31 : decode cX2_hasSome 31 = .ok (.goto (-28), 3) := by decide +kernel
theorem dX2_hasSome_34 : decode cX2_hasSome 34 = .ok (.iconst 0, 1) := by decide +kernel
theorem dX2_hasSome_35 : decode cX2_hasSome 35 = .ok (.ireturn, 1) := by decide +kernel
theorem dX2_covers_0 : decode cX2_covers 0 = .ok (.aload_n 1, 1) := by decide +kernel
theorem dX2_covers_1 : decode cX2_covers 1 = .ok (.invokevirtual 140, 3) := by decide +kernel
theorem dX2_covers_4 : decode cX2_covers 4 = .ok (.aload_n 0, 1) := by decide +kernel
theorem dX2_covers_5 : decode cX2_covers 5 = .ok (.getfield 48, 3) := by decide +kernel
theorem dX2_covers_8 : decode cX2_covers 8 = .ok (.iconst (-1), 1) := by decide +kernel
theorem dX2_covers_9 : decode cX2_covers 9 = .ok (.ixor, 1) := by decide +kernel
theorem dX2_covers_10 : decode cX2_covers 10 = .ok (.iand, 1) := by decide +kernel
theorem dX2_covers_11 : decode cX2_covers 11 = .ok (.ifCond .ne 7, 3) := by decide +kernel
theorem dX2_covers_14 : decode cX2_covers 14 = .ok (.iconst 1, 1) := by decide +kernel
theorem dX2_covers_15 : decode cX2_covers 15 = .ok (.goto 4, 3) := by decide +kernel
theorem dX2_covers_18 : decode cX2_covers 18 = .ok (.iconst 0, 1) := by decide +kernel
theorem dX2_covers_19 : decode cX2_covers 19 = .ok (.ireturn, 1) := by decide +kernel
theorem dX2_sortsFor_0 : decode cX2_sortsFor 0 = .ok (.iconst 0, 1) := by decide +kernel
theorem dX2_sortsFor_1 : decode cX2_sortsFor 1 = .ok (.istore_n 2, 1) := by decide +kernel
theorem dX2_sortsFor_2 : decode cX2_sortsFor 2 = .ok (.iload_n 2, 1) := by decide +kernel
theorem dX2_sortsFor_3 : decode cX2_sortsFor 3 = .ok (.aload_n 0, 1) := by decide +kernel
theorem dX2_sortsFor_4 : decode cX2_sortsFor 4 = .ok (.getfield 34, 3) := by decide +kernel
theorem dX2_sortsFor_7 : decode cX2_sortsFor 7 = .ok (.if_icmp .ge 40, 3) := by decide +kernel
theorem dX2_sortsFor_10 : decode cX2_sortsFor 10 = .ok (.aload_n 0, 1) := by decide +kernel
theorem dX2_sortsFor_11 : decode cX2_sortsFor 11 = .ok (.getfield 14, 3) := by decide +kernel
theorem dX2_sortsFor_14 : decode cX2_sortsFor 14 = .ok (.iload_n 2, 1) := by decide +kernel
theorem dX2_sortsFor_15 : decode cX2_sortsFor 15 = .ok (.invokevirtual 68, 3) := by decide +kernel
theorem dX2_sortsFor_18 : decode cX2_sortsFor 18 = .ok (.istore_n 3, 1) := by decide +kernel
theorem dX2_sortsFor_19 : decode cX2_sortsFor 19 = .ok (.aload_n 1, 1) := by decide +kernel
theorem dX2_sortsFor_20 : decode cX2_sortsFor 20 = .ok (.iload_n 3, 1) := by decide +kernel
theorem dX2_sortsFor_21 : decode cX2_sortsFor 21 = .ok (.invokevirtual 129, 3) := by decide +kernel
theorem dX2_sortsFor_24 : decode cX2_sortsFor 24 = .ok (.ifCond .ne 17, 3) := by decide +kernel
theorem dX2_sortsFor_27 : decode cX2_sortsFor 27 = .ok (.iload_n 3, 1) := by decide +kernel
theorem dX2_sortsFor_28 : decode cX2_sortsFor 28 = .ok (.aload_n 1, 1) := by decide +kernel
theorem dX2_sortsFor_29 : decode cX2_sortsFor 29 = .ok (.invokevirtual 143, 3) := by decide +kernel
theorem dX2_sortsFor_32 : decode cX2_sortsFor 32 = .ok (.if_icmp .ne 7, 3) := by decide +kernel
theorem dX2_sortsFor_35 : decode cX2_sortsFor 35 = .ok (.iconst 1, 1) := by decide +kernel
theorem dX2_sortsFor_36 : decode cX2_sortsFor 36 = .ok (.goto 4, 3) := by decide +kernel
theorem dX2_sortsFor_39 : decode cX2_sortsFor 39 = .ok (.iconst 0, 1) := by decide +kernel
theorem dX2_sortsFor_40 : decode cX2_sortsFor 40 = .ok (.ireturn, 1) := by decide +kernel
theorem dX2_sortsFor_41 : decode cX2_sortsFor 41 = .ok (.iinc 2 1, 3) := by decide +kernel
theorem dX2_sortsFor_44 : decode cX2_sortsFor 44 = .ok (.goto (-42), 3) := by decide +kernel
theorem dX2_sortsFor_47 : decode cX2_sortsFor 47 = .ok (.iconst 0, 1) := by decide +kernel
theorem dX2_sortsFor_48 : decode cX2_sortsFor 48 = .ok (.ireturn, 1) := by decide +kernel
theorem dX3_init_0 : decode cX3_init 0 = .ok (.aload_n 0, 1) := by decide +kernel
theorem dX3_init_1 : decode cX3_init 1 = .ok (.invokespecial 3, 3) := by decide +kernel
theorem dX3_init_4 : decode cX3_init 4 = .ok (.aload_n 0, 1) := by decide +kernel
theorem dX3_init_5 : decode cX3_init 5 = .ok (.bipush 8, 2) := by decide +kernel
theorem dX3_init_7 : decode cX3_init 7 = .ok (.anewarray 9, 3) := by decide +kernel
theorem dX3_init_10 : decode cX3_init 10 = .ok (.putfield 11, 3) := by decide +kernel
theorem dX3_init_13 : decode cX3_init 13 = .ok (.aload_n 0, 1) := by decide +kernel
theorem dX3_init_14 : decode cX3_init 14 = .ok (.aload_n 1, 1) := by decide +kernel
theorem dX3_init_15 : decode cX3_init 15 = .ok (.putfield 17, 3) := by decide +kernel
theorem dX3_init_18 : decode cX3_init 18 = .ok (.return_, 1) := by decide +kernel
theorem dX3_told_0 : decode cX3_told 0 = .ok (.aload_n 0, 1) := by decide +kernel
theorem dX3_told_1 : decode cX3_told 1 = .ok (.getfield 21, 3) := by decide +kernel
theorem dX3_told_4 : decode cX3_told 4 = .ok (.ireturn, 1) := by decide +kernel
theorem dX3_kept_0 : decode cX3_kept 0 = .ok (.iload_n 1, 1) := by decide +kernel
theorem dX3_kept_1 : decode cX3_kept 1 = .ok (.ifCond .lt 12, 3) := by decide +kernel
theorem dX3_kept_4 : decode cX3_kept 4 = .ok (.iload_n 1, 1) := by decide +kernel
theorem dX3_kept_5 : decode cX3_kept 5 = .ok (.aload_n 0, 1) := by decide +kernel
theorem dX3_kept_6 : decode cX3_kept 6 = .ok (.getfield 11, 3) := by decide +kernel
theorem dX3_kept_9 : decode cX3_kept 9 = .ok (.arraylength, 1) := by decide +kernel
theorem dX3_kept_10 : decode cX3_kept 10 = .ok (.if_icmp .lt 5, 3) := by decide +kernel
theorem dX3_kept_13 : decode cX3_kept 13 = .ok (.aconst_null, 1) := by decide +kernel
theorem dX3_kept_14 : decode cX3_kept 14 = .ok (.areturn, 1) := by decide +kernel
theorem dX3_kept_15 : decode cX3_kept 15 = .ok (.aload_n 0, 1) := by decide +kernel
theorem dX3_kept_16 : decode cX3_kept 16 = .ok (.getfield 11, 3) := by decide +kernel
theorem dX3_kept_19 : decode cX3_kept 19 = .ok (.iload_n 1, 1) := by decide +kernel
theorem dX3_kept_20 : decode cX3_kept 20 = .ok (.aaload, 1) := by decide +kernel
theorem dX3_kept_21 : decode cX3_kept 21 = .ok (.astore_n 2, 1) := by decide +kernel
theorem dX3_kept_22 : decode cX3_kept 22 = .ok (.aload_n 2, 1) := by decide +kernel
theorem dX3_kept_23 : decode cX3_kept 23 = .ok (.ifnull 10, 3) := by decide +kernel
theorem dX3_kept_26 : decode cX3_kept 26 = .ok (.aload_n 2, 1) := by decide +kernel
theorem dX3_kept_27 : decode cX3_kept 27 = .ok (.invokevirtual 25, 3) := by decide +kernel
theorem dX3_kept_30 : decode cX3_kept 30 = .ok (.ifCond .eq 7, 3) := by decide +kernel
theorem dX3_kept_33 : decode cX3_kept 33 = .ok (.aconst_null, 1) := by decide +kernel
theorem dX3_kept_34 : decode cX3_kept 34 = .ok (.goto 4, 3) := by decide +kernel
theorem dX3_kept_37 : decode cX3_kept 37 = .ok (.aload_n 2, 1) := by decide +kernel
theorem dX3_kept_38 : decode cX3_kept 38 = .ok (.areturn, 1) := by decide +kernel
theorem dX3_haveKey_0 : decode cX3_haveKey 0 = .ok (.iconst 0, 1) := by decide +kernel
theorem dX3_haveKey_1 : decode cX3_haveKey 1 = .ok (.istore_n 2, 1) := by decide +kernel
theorem dX3_haveKey_2 : decode cX3_haveKey 2 = .ok (.iload_n 2, 1) := by decide +kernel
theorem dX3_haveKey_3 : decode cX3_haveKey 3 = .ok (.aload_n 0, 1) := by decide +kernel
theorem dX3_haveKey_4 : decode cX3_haveKey 4 = .ok (.getfield 21, 3) := by decide +kernel
theorem dX3_haveKey_7 : decode cX3_haveKey 7 = .ok (.if_icmp .ge 29, 3) := by decide +kernel
theorem dX3_haveKey_10 : decode cX3_haveKey 10 = .ok (.aload_n 0, 1) := by decide +kernel
theorem dX3_haveKey_11 : decode cX3_haveKey 11 = .ok (.iload_n 2, 1) := by decide +kernel
theorem dX3_haveKey_12 : decode cX3_haveKey 12 = .ok (.invokevirtual 29, 3) := by decide +kernel
theorem dX3_haveKey_15 : decode cX3_haveKey 15 = .ok (.astore_n 3, 1) := by decide +kernel
theorem dX3_haveKey_16 : decode cX3_haveKey 16 = .ok (.aload_n 3, 1) := by decide +kernel
theorem dX3_haveKey_17 : decode cX3_haveKey 17 = .ok (.ifnull 13, 3) := by decide +kernel
theorem dX3_haveKey_20 : decode cX3_haveKey 20 = .ok (.aload_n 3, 1) := by decide +kernel
theorem dX3_haveKey_21 : decode cX3_haveKey 21 = .ok (.invokevirtual 33, 3) := by decide +kernel
theorem dX3_haveKey_24 : decode cX3_haveKey 24 = .ok (.iload_n 1, 1) := by decide +kernel
theorem dX3_haveKey_25 : decode cX3_haveKey 25 = .ok (.if_icmp .ne 5, 3) := by decide +kernel
theorem dX3_haveKey_28 : decode cX3_haveKey 28 = .ok (.iconst 1, 1) := by decide +kernel
theorem dX3_haveKey_29 : decode cX3_haveKey 29 = .ok (.ireturn, 1) := by decide +kernel
theorem dX3_haveKey_30 : decode cX3_haveKey 30 = .ok (.iinc 2 1, 3) := by decide +kernel
theorem dX3_haveKey_33 : decode cX3_haveKey 33 = .ok (.goto (-31), 3) := by decide +kernel
theorem dX3_haveKey_36 : decode cX3_haveKey 36 = .ok (.iconst 0, 1) := by decide +kernel
theorem dX3_haveKey_37 : decode cX3_haveKey 37 = .ok (.ireturn, 1) := by decide +kernel
theorem dX3_tell_0 : decode cX3_tell 0 = .ok (.aload_n 0, 1) := by decide +kernel
theorem dX3_tell_1 : decode cX3_tell 1 = .ok (.getfield 21, 3) := by decide +kernel
theorem dX3_tell_4 : decode cX3_tell 4 = .ok (.istore_n 2, 1) := by decide +kernel
theorem dX3_tell_5 : decode cX3_tell 5 = .ok (.iload_n 2, 1) := by decide +kernel
theorem dX3_tell_6 : decode cX3_tell 6 = .ok (.ifCond .lt 12, 3) := by decide +kernel
theorem dX3_tell_9 : decode cX3_tell 9 = .ok (.iload_n 2, 1) := by decide +kernel
theorem dX3_tell_10 : decode cX3_tell 10 = .ok (.aload_n 0, 1) := by decide +kernel
theorem dX3_tell_11 : decode cX3_tell 11 = .ok (.getfield 11, 3) := by decide +kernel
theorem dX3_tell_14 : decode cX3_tell 14 = .ok (.arraylength, 1) := by decide +kernel
theorem dX3_tell_15 : decode cX3_tell 15 = .ok (.if_icmp .lt 6, 3) := by decide +kernel
theorem dX3_tell_18 : decode cX3_tell 18 = .ok (.bipush (-104), 2) := by decide +kernel
theorem dX3_tell_20 : decode cX3_tell 20 = .ok (.ireturn, 1) := by decide +kernel
theorem dX3_tell_21 : decode cX3_tell 21 = .ok (.new 9, 3) := by decide +kernel
theorem dX3_tell_24 : decode cX3_tell 24 = .ok (.dup, 1) := by decide +kernel
theorem dX3_tell_25 : decode cX3_tell 25 = .ok (.aload_n 0, 1) := by decide +kernel
theorem dX3_tell_26 : decode cX3_tell 26 = .ok (.getfield 17, 3) := by decide +kernel
theorem dX3_tell_29 : decode cX3_tell 29 = .ok (.iload_n 1, 1) := by decide +kernel
theorem dX3_tell_30 : decode cX3_tell 30 = .ok (.invokespecial 37, 3) := by decide +kernel
theorem dX3_tell_33 : decode cX3_tell 33 = .ok (.astore_n 3, 1) := by decide +kernel
theorem dX3_tell_34 : decode cX3_tell 34 = .ok (.aload_n 3, 1) := by decide +kernel
theorem dX3_tell_35 : decode cX3_tell 35 = .ok (.invokevirtual 40, 3) := by decide +kernel
theorem dX3_tell_38 : decode cX3_tell 38 = .ok (.aload_n 0, 1) := by decide +kernel
theorem dX3_tell_39 : decode cX3_tell 39 = .ok (.getfield 11, 3) := by decide +kernel
theorem dX3_tell_42 : decode cX3_tell 42 = .ok (.iload_n 2, 1) := by decide +kernel
theorem dX3_tell_43 : decode cX3_tell 43 = .ok (.aload_n 3, 1) := by decide +kernel
theorem dX3_tell_44 : decode cX3_tell 44 = .ok (.aastore, 1) := by decide +kernel
theorem dX3_tell_45 : decode cX3_tell 45 = .ok (.aload_n 0, 1) := by decide +kernel
theorem dX3_tell_46 : decode cX3_tell 46 = .ok (.dup, 1) := by decide +kernel
theorem dX3_tell_47 : decode cX3_tell 47 = .ok (.getfield 21, 3) := by decide +kernel
theorem dX3_tell_50 : decode cX3_tell 50 = .ok (.iconst 1, 1) := by decide +kernel
theorem dX3_tell_51 : decode cX3_tell 51 = .ok (.iadd, 1) := by decide +kernel
theorem dX3_tell_52 : decode cX3_tell 52 = .ok (.putfield 21, 3) := by decide +kernel
theorem dX3_tell_55 : decode cX3_tell 55 = .ok (.iload_n 2, 1) := by decide +kernel
theorem dX3_tell_56 : decode cX3_tell 56 = .ok (.ireturn, 1) := by decide +kernel
theorem dX3_entriesGo_0 : decode cX3_entriesGo 0 = .ok (.iconst 0, 1) := by decide +kernel
theorem dX3_entriesGo_1 : decode cX3_entriesGo 1 = .ok (.istore_n 2, 1) := by decide +kernel
theorem dX3_entriesGo_2 : decode cX3_entriesGo 2 = .ok (.iload_n 2, 1) := by decide +kernel
theorem dX3_entriesGo_3 : decode cX3_entriesGo 3 = .ok (.aload_n 0, 1) := by decide +kernel
theorem dX3_entriesGo_4 : decode cX3_entriesGo 4 = .ok (.getfield 21, 3) := by decide +kernel
theorem dX3_entriesGo_7 : decode cX3_entriesGo 7 = .ok (.if_icmp .ge 24, 3) := by decide +kernel
theorem dX3_entriesGo_10 : decode cX3_entriesGo 10 = .ok (.aload_n 0, 1) := by decide +kernel
theorem dX3_entriesGo_11 : decode cX3_entriesGo 11 = .ok (.iload_n 2, 1) := by decide +kernel
theorem dX3_entriesGo_12 : decode cX3_entriesGo 12 = .ok (.invokevirtual 29, 3) := by decide +kernel
theorem dX3_entriesGo_15 : decode cX3_entriesGo 15 = .ok (.astore_n 3, 1) := by decide +kernel
theorem dX3_entriesGo_16 : decode cX3_entriesGo 16 = .ok (.aload_n 3, 1) := by decide +kernel
theorem dX3_entriesGo_17 : decode cX3_entriesGo 17 = .ok (.ifnull 8, 3) := by decide +kernel
theorem dX3_entriesGo_20 : decode cX3_entriesGo 20 = .ok (.aload_n 3, 1) := by decide +kernel
theorem dX3_entriesGo_21 : decode cX3_entriesGo 21 = .ok (.iload_n 1, 1) := by decide +kernel
theorem dX3_entriesGo_22 : decode cX3_entriesGo 22 = .ok (.invokevirtual 43, 3) := by decide +kernel
theorem dX3_entriesGo_25 : decode cX3_entriesGo 25 = .ok (.iinc 2 1, 3) := by decide +kernel
theorem dX3_entriesGo_28 : decode cX3_entriesGo 28 = .ok (.goto (-26), 3) := by decide +kernel
theorem dX3_entriesGo_31 : decode cX3_entriesGo 31 = .ok (.return_, 1) := by decide +kernel
theorem dX3_entriesCome_0 : decode cX3_entriesCome 0 = .ok (.iconst 0, 1) := by decide +kernel
theorem dX3_entriesCome_1 : decode cX3_entriesCome 1 = .ok (.istore_n 2, 1) := by decide +kernel
theorem dX3_entriesCome_2 : decode cX3_entriesCome 2 = .ok (.iload_n 2, 1) := by decide +kernel
theorem dX3_entriesCome_3 : decode cX3_entriesCome 3 = .ok (.aload_n 0, 1) := by decide +kernel
theorem dX3_entriesCome_4 : decode cX3_entriesCome 4 = .ok (.getfield 21, 3) := by decide +kernel
theorem dX3_entriesCome_7 : decode cX3_entriesCome 7 = .ok (.if_icmp .ge 24, 3) := by decide +kernel
theorem dX3_entriesCome_10 : decode cX3_entriesCome 10 = .ok (.aload_n 0, 1) := by decide +kernel
theorem dX3_entriesCome_11 : decode cX3_entriesCome 11 = .ok (.iload_n 2, 1) := by decide +kernel
theorem dX3_entriesCome_12 : decode cX3_entriesCome 12 = .ok (.invokevirtual 29, 3) := by decide +kernel
theorem dX3_entriesCome_15 : decode cX3_entriesCome 15 = .ok (.astore_n 3, 1) := by decide +kernel
theorem dX3_entriesCome_16 : decode cX3_entriesCome 16 = .ok (.aload_n 3, 1) := by decide +kernel
theorem dX3_entriesCome_17 : decode cX3_entriesCome 17 = .ok (.ifnull 8, 3) := by decide +kernel
theorem dX3_entriesCome_20 : decode cX3_entriesCome 20 = .ok (.aload_n 3, 1) := by decide +kernel
theorem dX3_entriesCome_21 : decode cX3_entriesCome 21 = .ok (.iload_n 1, 1) := by decide +kernel
theorem dX3_entriesCome_22 : decode cX3_entriesCome 22 = .ok (.invokevirtual 47, 3) := by decide +kernel
theorem dX3_entriesCome_25 : decode cX3_entriesCome 25 = .ok (.iinc 2 1, 3) := by decide +kernel
theorem dX3_entriesCome_28 : decode cX3_entriesCome 28 = .ok (.goto (-26), 3) := by decide +kernel
theorem dX3_entriesCome_31 : decode cX3_entriesCome 31 = .ok (.return_, 1) := by decide +kernel
theorem dX3_keptSet_0 : decode cX3_keptSet 0 = .ok (.iconst 0, 1) := by decide +kernel
theorem dX3_keptSet_1 : decode cX3_keptSet 1 = .ok (.istore_n 1, 1) := by decide +kernel
theorem dX3_keptSet_2 : decode cX3_keptSet 2 = .ok (.iconst 0, 1) := by decide +kernel
theorem dX3_keptSet_3 : decode cX3_keptSet 3 = .ok (.istore_n 2, 1) := by decide +kernel
theorem dX3_keptSet_4 : decode cX3_keptSet 4 = .ok (.iload_n 2, 1) := by decide +kernel
theorem dX3_keptSet_5 : decode cX3_keptSet 5 = .ok (.aload_n 0, 1) := by decide +kernel
theorem dX3_keptSet_6 : decode cX3_keptSet 6 = .ok (.getfield 21, 3) := by decide +kernel
theorem dX3_keptSet_9 : decode cX3_keptSet 9 = .ok (.if_icmp .ge 23, 3) := by decide +kernel
theorem dX3_keptSet_12 : decode cX3_keptSet 12 = .ok (.aload_n 0, 1) := by decide +kernel
theorem dX3_keptSet_13 : decode cX3_keptSet 13 = .ok (.iload_n 2, 1) := by decide +kernel
theorem dX3_keptSet_14 : decode cX3_keptSet 14 = .ok (.invokevirtual 29, 3) := by decide +kernel
theorem dX3_keptSet_17 : decode cX3_keptSet 17 = .ok (.ifnull 9, 3) := by decide +kernel
theorem dX3_keptSet_20 : decode cX3_keptSet 20 = .ok (.iload_n 1, 1) := by decide +kernel
theorem dX3_keptSet_21 : decode cX3_keptSet 21 = .ok (.iload_n 2, 1) := by decide +kernel
theorem dX3_keptSet_22 : decode cX3_keptSet 22 = .ok (.invokestatic 50, 3) := by decide +kernel
theorem dX3_keptSet_25 : decode cX3_keptSet 25 = .ok (.istore_n 1, 1) := by decide +kernel
theorem dX3_keptSet_26 : decode cX3_keptSet 26 = .ok (.iinc 2 1, 3) := by decide +kernel
theorem dX3_keptSet_29 : decode cX3_keptSet 29 = .ok (.goto (-25), 3) := by decide +kernel
theorem dX3_keptSet_32 : decode cX3_keptSet 32 = .ok (.iload_n 1, 1) := by decide +kernel
theorem dX3_keptSet_33 : decode cX3_keptSet 33 = .ok (.ireturn, 1) := by decide +kernel
theorem dX3_sizesOf_0 : decode cX3_sizesOf 0 = .ok (.iconst 0, 1) := by decide +kernel
theorem dX3_sizesOf_1 : decode cX3_sizesOf 1 = .ok (.istore_n 2, 1) := by decide +kernel
theorem dX3_sizesOf_2 : decode cX3_sizesOf 2 = .ok (.iconst 0, 1) := by decide +kernel
theorem dX3_sizesOf_3 : decode cX3_sizesOf 3 = .ok (.istore_n 3, 1) := by decide +kernel
theorem dX3_sizesOf_4 : decode cX3_sizesOf 4 = .ok (.iload_n 3, 1) := by decide +kernel
theorem dX3_sizesOf_5 : decode cX3_sizesOf 5 = .ok (.aload_n 0, 1) := by decide +kernel
theorem dX3_sizesOf_6 : decode cX3_sizesOf 6 = .ok (.getfield 21, 3) := by decide +kernel
theorem dX3_sizesOf_9 : decode cX3_sizesOf 9 = .ok (.if_icmp .ge 41, 3) := by decide +kernel
theorem dX3_sizesOf_12 : decode cX3_sizesOf 12 = .ok (.iload_n 1, 1) := by decide +kernel
theorem dX3_sizesOf_13 : decode cX3_sizesOf 13 = .ok (.iload_n 3, 1) := by decide +kernel
theorem dX3_sizesOf_14 : decode cX3_sizesOf 14 = .ok (.invokestatic 54, 3) := by decide +kernel
theorem dX3_sizesOf_17 : decode cX3_sizesOf 17 = .ok (.ifCond .eq 11, 3) := by decide +kernel
theorem dX3_sizesOf_20 : decode cX3_sizesOf 20 = .ok (.aload_n 0, 1) := by decide +kernel
theorem dX3_sizesOf_21 : decode cX3_sizesOf 21 = .ok (.iload_n 3, 1) := by decide +kernel
theorem dX3_sizesOf_22 : decode cX3_sizesOf 22 = .ok (.invokevirtual 29, 3) := by decide +kernel
theorem dX3_sizesOf_25 : decode cX3_sizesOf 25 = .ok (.goto 4, 3) := by decide +kernel
theorem dX3_sizesOf_28 : decode cX3_sizesOf 28 = .ok (.aconst_null, 1) := by decide +kernel
theorem dX3_sizesOf_29 : decode cX3_sizesOf 29 = .ok (.astore 4, 2) := by decide +kernel
theorem dX3_sizesOf_31 : decode cX3_sizesOf 31 = .ok (.aload 4, 2) := by decide +kernel
theorem dX3_sizesOf_33 : decode cX3_sizesOf 33 = .ok (.ifnull 11, 3) := by decide +kernel
theorem dX3_sizesOf_36 : decode cX3_sizesOf 36 = .ok (.iload_n 2, 1) := by decide +kernel
theorem dX3_sizesOf_37 : decode cX3_sizesOf 37 = .ok (.aload 4, 2) := by decide +kernel
theorem dX3_sizesOf_39 : decode cX3_sizesOf 39 = .ok (.invokevirtual 58, 3) := by decide +kernel
theorem dX3_sizesOf_42 : decode cX3_sizesOf 42 = .ok (.iadd, 1) := by decide +kernel
theorem dX3_sizesOf_43 : decode cX3_sizesOf 43 = .ok (.istore_n 2, 1) := by decide +kernel
theorem dX3_sizesOf_44 : decode cX3_sizesOf 44 = .ok (.iinc 3 1, 3) := by decide +kernel
theorem dX3_sizesOf_47 : decode cX3_sizesOf 47 = .ok (.goto (-43), 3) := by decide +kernel
theorem dX3_sizesOf_50 : decode cX3_sizesOf 50 = .ok (.iload_n 2, 1) := by decide +kernel
theorem dX3_sizesOf_51 : decode cX3_sizesOf 51 = .ok (.ireturn, 1) := by decide +kernel
theorem dX3_burdenOf_0 : decode cX3_burdenOf 0 = .ok (.iconst 0, 1) := by decide +kernel
theorem dX3_burdenOf_1 : decode cX3_burdenOf 1 = .ok (.istore_n 2, 1) := by decide +kernel
theorem dX3_burdenOf_2 : decode cX3_burdenOf 2 = .ok (.iconst 0, 1) := by decide +kernel
theorem dX3_burdenOf_3 : decode cX3_burdenOf 3 = .ok (.istore_n 3, 1) := by decide +kernel
theorem dX3_burdenOf_4 : decode cX3_burdenOf 4 = .ok (.iload_n 3, 1) := by decide +kernel
theorem dX3_burdenOf_5 : decode cX3_burdenOf 5 = .ok (.aload_n 0, 1) := by decide +kernel
theorem dX3_burdenOf_6 : decode cX3_burdenOf 6 = .ok (.getfield 21, 3) := by decide +kernel
theorem dX3_burdenOf_9 : decode cX3_burdenOf 9 = .ok (.if_icmp .ge 43, 3) := by decide +kernel
theorem dX3_burdenOf_12 : decode cX3_burdenOf 12 = .ok (.iload_n 1, 1) := by decide +kernel
theorem dX3_burdenOf_13 : decode cX3_burdenOf 13 = .ok (.iload_n 3, 1) := by decide +kernel
theorem dX3_burdenOf_14 : decode cX3_burdenOf 14 = .ok (.invokestatic 54, 3) := by decide +kernel
theorem dX3_burdenOf_17 : decode cX3_burdenOf 17 = .ok (.ifCond .eq 11, 3) := by decide +kernel
theorem dX3_burdenOf_20 : decode cX3_burdenOf 20 = .ok (.aload_n 0, 1) := by decide +kernel
theorem dX3_burdenOf_21 : decode cX3_burdenOf 21 = .ok (.iload_n 3, 1) := by decide +kernel
theorem dX3_burdenOf_22 : decode cX3_burdenOf 22 = .ok (.invokevirtual 29, 3) := by decide +kernel
theorem dX3_burdenOf_25 : decode cX3_burdenOf 25 = .ok (.goto 4, 3) := by decide +kernel
theorem dX3_burdenOf_28 : decode cX3_burdenOf 28 = .ok (.aconst_null, 1) := by decide +kernel
theorem dX3_burdenOf_29 : decode cX3_burdenOf 29 = .ok (.astore 4, 2) := by decide +kernel
theorem dX3_burdenOf_31 : decode cX3_burdenOf 31 = .ok (.aload 4, 2) := by decide +kernel
theorem dX3_burdenOf_33 : decode cX3_burdenOf 33 = .ok (.ifnull 13, 3) := by decide +kernel
theorem dX3_burdenOf_36 : decode cX3_burdenOf 36 = .ok (.iload_n 2, 1) := by decide +kernel
theorem dX3_burdenOf_37 : decode cX3_burdenOf 37 = .ok (.aload 4, 2) := by decide +kernel
theorem dX3_burdenOf_39 : decode cX3_burdenOf 39 = .ok (.invokevirtual 61, 3) := by decide +kernel
theorem dX3_burdenOf_42 : decode cX3_burdenOf 42 = .ok (.iconst 2, 1) := by decide +kernel
theorem dX3_burdenOf_43 : decode cX3_burdenOf 43 = .ok (.iadd, 1) := by decide +kernel
theorem dX3_burdenOf_44 : decode cX3_burdenOf 44 = .ok (.iadd, 1) := by decide +kernel
theorem dX3_burdenOf_45 : decode cX3_burdenOf 45 = .ok (.istore_n 2, 1) := by decide +kernel
theorem dX3_burdenOf_46 : decode cX3_burdenOf 46 = .ok (.iinc 3 1, 3) := by decide +kernel
theorem dX3_burdenOf_49 : decode cX3_burdenOf 49 = .ok (.goto (-45), 3) := by decide +kernel
theorem dX3_burdenOf_52 : decode cX3_burdenOf 52 = .ok (.iload_n 2, 1) := by decide +kernel
theorem dX3_burdenOf_53 : decode cX3_burdenOf 53 = .ok (.ireturn, 1) := by decide +kernel
theorem dX4_init_0 : decode cX4_init 0 = .ok (.aload_n 0, 1) := by decide +kernel
theorem dX4_init_1 : decode cX4_init 1 = .ok (.invokespecial 3, 3) := by decide +kernel
theorem dX4_init_4 : decode cX4_init 4 = .ok (.aload_n 0, 1) := by decide +kernel
theorem dX4_init_5 : decode cX4_init 5 = .ok (.new 9, 3) := by decide +kernel
theorem dX4_init_8 : decode cX4_init 8 = .ok (.dup, 1) := by decide +kernel
theorem dX4_init_9 : decode cX4_init 9 = .ok (.iconst 4, 1) := by decide +kernel
theorem dX4_init_10 : decode cX4_init 10 = .ok (.invokespecial 11, 3) := by decide +kernel
theorem dX4_init_13 : decode cX4_init 13 = .ok (.putfield 14, 3) := by decide +kernel
theorem dX4_init_16 : decode cX4_init 16 = .ok (.aload_n 0, 1) := by decide +kernel
theorem dX4_init_17 : decode cX4_init 17 = .ok (.new 9, 3) := by decide +kernel
theorem dX4_init_20 : decode cX4_init 20 = .ok (.dup, 1) := by decide +kernel
theorem dX4_init_21 : decode cX4_init 21 = .ok (.iconst 4, 1) := by decide +kernel
theorem dX4_init_22 : decode cX4_init 22 = .ok (.invokespecial 11, 3) := by decide +kernel
theorem dX4_init_25 : decode cX4_init 25 = .ok (.putfield 20, 3) := by decide +kernel
theorem dX4_init_28 : decode cX4_init 28 = .ok (.aload_n 0, 1) := by decide +kernel
theorem dX4_init_29 : decode cX4_init 29 = .ok (.new 9, 3) := by decide +kernel
theorem dX4_init_32 : decode cX4_init 32 = .ok (.dup, 1) := by decide +kernel
theorem dX4_init_33 : decode cX4_init 33 = .ok (.iconst 4, 1) := by decide +kernel
theorem dX4_init_34 : decode cX4_init 34 = .ok (.invokespecial 11, 3) := by decide +kernel
theorem dX4_init_37 : decode cX4_init 37 = .ok (.putfield 23, 3) := by decide +kernel
theorem dX4_init_40 : decode cX4_init 40 = .ok (.return_, 1) := by decide +kernel
theorem dX5_init_0 : decode cX5_init 0 = .ok (.aload_n 0, 1) := by decide +kernel
theorem dX5_init_1 : decode cX5_init 1 = .ok (.invokespecial 3, 3) := by decide +kernel
theorem dX5_init_4 : decode cX5_init 4 = .ok (.aload_n 0, 1) := by decide +kernel
theorem dX5_init_5 : decode cX5_init 5 = .ok (.iconst 4, 1) := by decide +kernel
theorem dX5_init_6 : decode cX5_init 6 = .ok (.anewarray 9, 3) := by decide +kernel
theorem dX5_init_9 : decode cX5_init 9 = .ok (.putfield 11, 3) := by decide +kernel
theorem dX5_init_12 : decode cX5_init 12 = .ok (.aload_n 0, 1) := by decide +kernel
theorem dX5_init_13 : decode cX5_init 13 = .ok (.new 17, 3) := by decide +kernel
theorem dX5_init_16 : decode cX5_init 16 = .ok (.dup, 1) := by decide +kernel
theorem dX5_init_17 : decode cX5_init 17 = .ok (.bipush 64, 2) := by decide +kernel
theorem dX5_init_19 : decode cX5_init 19 = .ok (.invokespecial 19, 3) := by decide +kernel
theorem dX5_init_22 : decode cX5_init 22 = .ok (.putfield 22, 3) := by decide +kernel
theorem dX5_init_25 : decode cX5_init 25 = .ok (.aload_n 0, 1) := by decide +kernel
theorem dX5_init_26 : decode cX5_init 26 = .ok (.aload_n 1, 1) := by decide +kernel
theorem dX5_init_27 : decode cX5_init 27 = .ok (.putfield 26, 3) := by decide +kernel
theorem dX5_init_30 : decode cX5_init 30 = .ok (.aload_n 0, 1) := by decide +kernel
theorem dX5_init_31 : decode cX5_init 31 = .ok (.aload_n 2, 1) := by decide +kernel
theorem dX5_init_32 : decode cX5_init 32 = .ok (.putfield 30, 3) := by decide +kernel
theorem dX5_init_35 : decode cX5_init 35 = .ok (.iconst 0, 1) := by decide +kernel
theorem dX5_init_36 : decode cX5_init 36 = .ok (.istore_n 3, 1) := by decide +kernel
theorem dX5_init_37 : decode cX5_init 37 = .ok (.iload_n 3, 1) := by decide +kernel
theorem dX5_init_38 : decode cX5_init 38 = .ok (.aload_n 0, 1) := by decide +kernel
theorem dX5_init_39 : decode cX5_init 39 = .ok (.getfield 11, 3) := by decide +kernel
theorem dX5_init_42 : decode cX5_init 42 = .ok (.arraylength, 1) := by decide +kernel
theorem dX5_init_43 : decode cX5_init 43 = .ok (.if_icmp .ge 22, 3) := by decide +kernel
theorem dX5_init_46 : decode cX5_init 46 = .ok (.aload_n 0, 1) := by decide +kernel
theorem dX5_init_47 : decode cX5_init 47 = .ok (.getfield 11, 3) := by decide +kernel
theorem dX5_init_50 : decode cX5_init 50 = .ok (.iload_n 3, 1) := by decide +kernel
theorem dX5_init_51 : decode cX5_init 51 = .ok (.new 9, 3) := by decide +kernel
theorem dX5_init_54 : decode cX5_init 54 = .ok (.dup, 1) := by decide +kernel
theorem dX5_init_55 : decode cX5_init 55 = .ok (.invokespecial 34, 3) := by decide +kernel
theorem dX5_init_58 : decode cX5_init 58 = .ok (.aastore, 1) := by decide +kernel
theorem dX5_init_59 : decode cX5_init 59 = .ok (.iinc 3 1, 3) := by decide +kernel
theorem dX5_init_62 : decode cX5_init 62 = .ok (.goto (-25), 3) := by decide +kernel
theorem dX5_init_65 : decode cX5_init 65 = .ok (.return_, 1) := by decide +kernel
theorem dX6_init_0 : decode cX6_init 0 = .ok (.aload_n 0, 1) := by decide +kernel
theorem dX6_init_1 : decode cX6_init 1 = .ok (.invokespecial 3, 3) := by decide +kernel
theorem dX6_init_4 : decode cX6_init 4 = .ok (.aload_n 0, 1) := by decide +kernel
theorem dX6_init_5 : decode cX6_init 5 = .ok (.new 9, 3) := by decide +kernel
theorem dX6_init_8 : decode cX6_init 8 = .ok (.dup, 1) := by decide +kernel
theorem dX6_init_9 : decode cX6_init 9 = .ok (.iconst 4, 1) := by decide +kernel
theorem dX6_init_10 : decode cX6_init 10 = .ok (.invokespecial 11, 3) := by decide +kernel
theorem dX6_init_13 : decode cX6_init 13 = .ok (.putfield 14, 3) := by decide +kernel
theorem dX6_init_16 : decode cX6_init 16 = .ok (.aload_n 0, 1) := by decide +kernel
theorem dX6_init_17 : decode cX6_init 17 = .ok (.new 9, 3) := by decide +kernel
theorem dX6_init_20 : decode cX6_init 20 = .ok (.dup, 1) := by decide +kernel
theorem dX6_init_21 : decode cX6_init 21 = .ok (.iconst 4, 1) := by decide +kernel
theorem dX6_init_22 : decode cX6_init 22 = .ok (.invokespecial 11, 3) := by decide +kernel
theorem dX6_init_25 : decode cX6_init 25 = .ok (.putfield 20, 3) := by decide +kernel
theorem dX6_init_28 : decode cX6_init 28 = .ok (.return_, 1) := by decide +kernel
theorem dX6_clear_0 : decode cX6_clear 0 = .ok (.iconst 0, 1) := by decide +kernel
theorem dX6_clear_1 : decode cX6_clear 1 = .ok (.istore_n 1, 1) := by decide +kernel
theorem dX6_clear_2 : decode cX6_clear 2 = .ok (.iload_n 1, 1) := by decide +kernel
theorem dX6_clear_3 : decode cX6_clear 3 = .ok (.iconst 4, 1) := by decide +kernel
theorem dX6_clear_4 : decode cX6_clear 4 = .ok (.if_icmp .ge 28, 3) := by decide +kernel
theorem dX6_clear_7 : decode cX6_clear 7 = .ok (.aload_n 0, 1) := by decide +kernel
theorem dX6_clear_8 : decode cX6_clear 8 = .ok (.getfield 14, 3) := by decide +kernel
theorem dX6_clear_11 : decode cX6_clear 11 = .ok (.iload_n 1, 1) := by decide +kernel
theorem dX6_clear_12 : decode cX6_clear 12 = .ok (.iconst 0, 1) := by decide +kernel
theorem dX6_clear_13 : decode cX6_clear 13 = .ok (.invokevirtual 23, 3) := by decide +kernel
theorem dX6_clear_16 : decode cX6_clear 16 = .ok (.aload_n 0, 1) := by decide +kernel
theorem dX6_clear_17 : decode cX6_clear 17 = .ok (.getfield 20, 3) := by decide +kernel
theorem dX6_clear_20 : decode cX6_clear 20 = .ok (.iload_n 1, 1) := by decide +kernel
theorem dX6_clear_21 : decode cX6_clear 21 = .ok (.bipush 99, 2) := by decide +kernel
theorem dX6_clear_23 : decode cX6_clear 23 = .ok (.invokevirtual 23, 3) := by decide +kernel
theorem dX6_clear_26 : decode cX6_clear 26 = .ok (.iinc 1 1, 3) := by decide +kernel
theorem dX6_clear_29 : decode cX6_clear 29 = .ok (.goto (-27), 3) := by decide +kernel
theorem dX6_clear_32 : decode cX6_clear 32 = .ok (.aload_n 0, 1) := by decide +kernel
theorem dX6_clear_33 : decode cX6_clear 33 = .ok (.iconst 0, 1) := by decide +kernel
theorem dX6_clear_34 : decode cX6_clear 34 = .ok (.putfield 27, 3) := by decide +kernel
theorem dX6_clear_37 : decode cX6_clear 37 = .ok (.aload_n 0, 1) := by decide +kernel
theorem dX6_clear_38 : decode cX6_clear 38 = .ok (.iconst 0, 1) := by decide +kernel
theorem dX6_clear_39 : decode cX6_clear 39 = .ok (.putfield 31, 3) := by decide +kernel
theorem dX6_clear_42 : decode cX6_clear 42 = .ok (.aload_n 0, 1) := by decide +kernel
theorem dX6_clear_43 : decode cX6_clear 43 = .ok (.iconst 0, 1) := by decide +kernel
theorem dX6_clear_44 : decode cX6_clear 44 = .ok (.putfield 34, 3) := by decide +kernel
theorem dX6_clear_47 : decode cX6_clear 47 = .ok (.aload_n 0, 1) := by decide +kernel
theorem dX6_clear_48 : decode cX6_clear 48 = .ok (.iconst (-1), 1) := by decide +kernel
theorem dX6_clear_49 : decode cX6_clear 49 = .ok (.putfield 37, 3) := by decide +kernel
theorem dX6_clear_52 : decode cX6_clear 52 = .ok (.aload_n 0, 1) := by decide +kernel
theorem dX6_clear_53 : decode cX6_clear 53 = .ok (.iconst 1, 1) := by decide +kernel
theorem dX6_clear_54 : decode cX6_clear 54 = .ok (.putfield 40, 3) := by decide +kernel
theorem dX6_clear_57 : decode cX6_clear 57 = .ok (.return_, 1) := by decide +kernel
theorem dX6_narrow_0 : decode cX6_narrow 0 = .ok (.aload_n 0, 1) := by decide +kernel
theorem dX6_narrow_1 : decode cX6_narrow 1 = .ok (.getfield 14, 3) := by decide +kernel
theorem dX6_narrow_4 : decode cX6_narrow 4 = .ok (.iload_n 1, 1) := by decide +kernel
theorem dX6_narrow_5 : decode cX6_narrow 5 = .ok (.invokevirtual 43, 3) := by decide +kernel
theorem dX6_narrow_8 : decode cX6_narrow 8 = .ok (.iload_n 2, 1) := by decide +kernel
theorem dX6_narrow_9 : decode cX6_narrow 9 = .ok (.invokestatic 47, 3) := by decide +kernel
theorem dX6_narrow_12 : decode cX6_narrow 12 = .ok (.istore 4, 2) := by decide +kernel
theorem dX6_narrow_14 : decode cX6_narrow 14 = .ok (.aload_n 0, 1) := by decide +kernel
theorem dX6_narrow_15 : decode cX6_narrow 15 = .ok (.getfield 20, 3) := by decide +kernel
theorem dX6_narrow_18 : decode cX6_narrow 18 = .ok (.iload_n 1, 1) := by decide +kernel
theorem dX6_narrow_19 : decode cX6_narrow 19 = .ok (.invokevirtual 43, 3) := by decide +kernel
theorem dX6_narrow_22 : decode cX6_narrow 22 = .ok (.iload_n 3, 1) := by decide +kernel
theorem dX6_narrow_23 : decode cX6_narrow 23 = .ok (.invokestatic 53, 3) := by decide +kernel
theorem dX6_narrow_26 : decode cX6_narrow 26 = .ok (.istore 5, 2) := by decide +kernel
theorem dX6_narrow_28 : decode cX6_narrow 28 = .ok (.aload_n 0, 1) := by decide +kernel
theorem dX6_narrow_29 : decode cX6_narrow 29 = .ok (.getfield 14, 3) := by decide +kernel
theorem dX6_narrow_32 : decode cX6_narrow 32 = .ok (.iload_n 1, 1) := by decide +kernel
theorem dX6_narrow_33 : decode cX6_narrow 33 = .ok (.iload 4, 2) := by decide +kernel
theorem dX6_narrow_35 : decode cX6_narrow 35 = .ok (.invokevirtual 23, 3) := by decide +kernel
theorem dX6_narrow_38 : decode cX6_narrow 38 = .ok (.aload_n 0, 1) := by decide +kernel
theorem dX6_narrow_39 : decode cX6_narrow 39 = .ok (.getfield 20, 3) := by decide +kernel
theorem dX6_narrow_42 : decode cX6_narrow 42 = .ok (.iload_n 1, 1) := by decide +kernel
theorem dX6_narrow_43 : decode cX6_narrow 43 = .ok (.iload 5, 2) := by decide +kernel
theorem dX6_narrow_45 : decode cX6_narrow 45 = .ok (.invokevirtual 23, 3) := by decide +kernel
theorem dX6_narrow_48 : decode cX6_narrow 48 = .ok (.aload_n 0, 1) := by decide +kernel
theorem dX6_narrow_49 : decode cX6_narrow 49 = .ok (.iload 4, 2) := by decide +kernel
theorem dX6_narrow_51 : decode cX6_narrow 51 = .ok (.ifCond .ne 10, 3) := by decide +kernel
theorem dX6_narrow_54 : decode cX6_narrow 54 = .ok (.iload 5, 2) := by decide +kernel
theorem dX6_narrow_56 : decode cX6_narrow 56 = .ok (.bipush 99, 2) := by decide +kernel
theorem dX6_narrow_58 : decode cX6_narrow 58 = .ok (.if_icmp .eq 14, 3) := by decide +kernel
theorem dX6_narrow_61 : decode cX6_narrow 61 = .ok (.aload_n 0, 1) := by decide +kernel
theorem dX6_narrow_62 : decode cX6_narrow 62 = .ok (.getfield 27, 3) := by decide +kernel
theorem dX6_narrow_65 : decode cX6_narrow 65 = .ok (.iload_n 1, 1) := by decide +kernel
theorem dX6_narrow_66 : decode cX6_narrow 66 = .ok (.invokestatic 56, 3) := by decide +kernel
theorem dX6_narrow_69 : decode cX6_narrow 69 = .ok (.goto 11, 3) := by decide +kernel
theorem dX6_narrow_72 : decode cX6_narrow 72 = .ok (.aload_n 0, 1) := by decide +kernel
theorem dX6_narrow_73 : decode cX6_narrow 73 = .ok (.getfield 27, 3) := by decide +kernel
theorem dX6_narrow_76 : decode cX6_narrow 76 = .ok (.iload_n 1, 1) := by decide +kernel
theorem dX6_narrow_77 : decode cX6_narrow 77 = .ok (.invokestatic 59, 3) := by decide +kernel
theorem dX6_narrow_80 : decode cX6_narrow 80 = .ok (.putfield 27, 3) := by decide +kernel
theorem dX6_narrow_83 : decode cX6_narrow 83 = .ok (.aload_n 0, 1) := by decide +kernel
theorem dX6_narrow_84 : decode cX6_narrow 84 = .ok (.iload 4, 2) := by decide +kernel
theorem dX6_narrow_86 : decode cX6_narrow 86 = .ok (.iload 5, 2) := by decide +kernel
theorem dX6_narrow_88 : decode cX6_narrow 88 = .ok (.if_icmp .ne 14, 3) := by decide +kernel
theorem dX6_narrow_91 : decode cX6_narrow 91 = .ok (.aload_n 0, 1) := by decide +kernel
theorem dX6_narrow_92 : decode cX6_narrow 92 = .ok (.getfield 31, 3) := by decide +kernel
theorem dX6_narrow_95 : decode cX6_narrow 95 = .ok (.iload_n 1, 1) := by decide +kernel
theorem dX6_narrow_96 : decode cX6_narrow 96 = .ok (.invokestatic 56, 3) := by decide +kernel
theorem dX6_narrow_99 : decode cX6_narrow 99 = .ok (.goto 11, 3) := by decide +kernel
theorem dX6_narrow_102 : decode cX6_narrow 102 = .ok (.aload_n 0, 1) := by decide +kernel
theorem dX6_narrow_103 : decode cX6_narrow 103 = .ok (.getfield 31, 3) := by decide +kernel
theorem dX6_narrow_106 : decode cX6_narrow 106 = .ok (.iload_n 1, 1) := by decide +kernel
theorem dX6_narrow_107 : decode cX6_narrow 107 = .ok (.invokestatic 59, 3) := by decide +kernel
theorem dX6_narrow_110 : decode cX6_narrow 110 = .ok (.putfield 31, 3) := by decide +kernel
theorem dX6_narrow_113 : decode cX6_narrow 113 = .ok (.return_, 1) := by decide +kernel
theorem dX6_shows_0 : decode cX6_shows 0 = .ok (.aload_n 0, 1) := by decide +kernel
theorem dX6_shows_1 : decode cX6_shows 1 = .ok (.getfield 34, 3) := by decide +kernel
theorem dX6_shows_4 : decode cX6_shows 4 = .ok (.iload_n 1, 1) := by decide +kernel
theorem dX6_shows_5 : decode cX6_shows 5 = .ok (.invokestatic 62, 3) := by decide +kernel
theorem dX6_shows_8 : decode cX6_shows 8 = .ok (.ireturn, 1) := by decide +kernel
theorem dX6_show_0 : decode cX6_show 0 = .ok (.aload_n 0, 1) := by decide +kernel
theorem dX6_show_1 : decode cX6_show 1 = .ok (.aload_n 0, 1) := by decide +kernel
theorem dX6_show_2 : decode cX6_show 2 = .ok (.getfield 34, 3) := by decide +kernel
theorem dX6_show_5 : decode cX6_show 5 = .ok (.iload_n 1, 1) := by decide +kernel
theorem dX6_show_6 : decode cX6_show 6 = .ok (.invokestatic 56, 3) := by decide +kernel
theorem dX6_show_9 : decode cX6_show 9 = .ok (.putfield 34, 3) := by decide +kernel
theorem dX6_show_12 : decode cX6_show 12 = .ok (.return_, 1) := by decide +kernel
theorem dX6_sortBy_0 : decode cX6_sortBy 0 = .ok (.aload_n 0, 1) := by decide +kernel
theorem dX6_sortBy_1 : decode cX6_sortBy 1 = .ok (.iload_n 1, 1) := by decide +kernel
theorem dX6_sortBy_2 : decode cX6_sortBy 2 = .ok (.putfield 37, 3) := by decide +kernel
theorem dX6_sortBy_5 : decode cX6_sortBy 5 = .ok (.return_, 1) := by decide +kernel
theorem dX6_sortColumn_0 : decode cX6_sortColumn 0 = .ok (.aload_n 0, 1) := by decide +kernel
theorem dX6_sortColumn_1 : decode cX6_sortColumn 1 = .ok (.getfield 37, 3) := by decide +kernel
theorem dX6_sortColumn_4 : decode cX6_sortColumn 4 = .ok (.ireturn, 1) := by decide +kernel
theorem dX6_heft_0 : decode cX6_heft 0 = .ok (.aload_n 0, 1) := by decide +kernel
theorem dX6_heft_1 : decode cX6_heft 1 = .ok (.getfield 40, 3) := by decide +kernel
theorem dX6_heft_4 : decode cX6_heft 4 = .ok (.ireturn, 1) := by decide +kernel
theorem dX6_weigh_0 : decode cX6_weigh 0 = .ok (.aload_n 0, 1) := by decide +kernel
theorem dX6_weigh_1 : decode cX6_weigh 1 = .ok (.iload_n 1, 1) := by decide +kernel
theorem dX6_weigh_2 : decode cX6_weigh 2 = .ok (.putfield 40, 3) := by decide +kernel
theorem dX6_weigh_5 : decode cX6_weigh 5 = .ok (.return_, 1) := by decide +kernel
theorem dX6_least_0 : decode cX6_least 0 = .ok (.aload_n 0, 1) := by decide +kernel
theorem dX6_least_1 : decode cX6_least 1 = .ok (.getfield 14, 3) := by decide +kernel
theorem dX6_least_4 : decode cX6_least 4 = .ok (.iload_n 1, 1) := by decide +kernel
theorem dX6_least_5 : decode cX6_least 5 = .ok (.invokevirtual 43, 3) := by decide +kernel
theorem dX6_least_8 : decode cX6_least 8 = .ok (.ireturn, 1) := by decide +kernel
theorem dX6_greatest_0 : decode cX6_greatest 0 = .ok (.aload_n 0, 1) := by decide +kernel
theorem dX6_greatest_1 : decode cX6_greatest 1 = .ok (.getfield 20, 3) := by decide +kernel
theorem dX6_greatest_4 : decode cX6_greatest 4 = .ok (.iload_n 1, 1) := by decide +kernel
theorem dX6_greatest_5 : decode cX6_greatest 5 = .ok (.invokevirtual 43, 3) := by decide +kernel
theorem dX6_greatest_8 : decode cX6_greatest 8 = .ok (.ireturn, 1) := by decide +kernel
theorem dX6_letsNone_0 : decode cX6_letsNone 0 = .ok (.aload_n 0, 1) := by decide +kernel
theorem dX6_letsNone_1 : decode cX6_letsNone 1 = .ok (.iload_n 1, 1) := by decide +kernel
theorem dX6_letsNone_2 : decode cX6_letsNone 2 = .ok (.invokevirtual 66, 3) := by decide +kernel
theorem dX6_letsNone_5 : decode cX6_letsNone 5 = .ok (.aload_n 0, 1) := by decide +kernel
theorem dX6_letsNone_6 : decode cX6_letsNone 6 = .ok (.iload_n 1, 1) := by decide +kernel
theorem dX6_letsNone_7 : decode cX6_letsNone 7 = .ok (.invokevirtual 69, 3) := by decide +kernel
theorem dX6_letsNone_10 : decode cX6_letsNone 10 = .ok (.if_icmp .le 7, 3) := by decide +kernel
theorem dX6_letsNone_13 : decode cX6_letsNone 13 = .ok (.iconst 1, 1) := by decide +kernel
theorem dX6_letsNone_14 : decode cX6_letsNone 14 = .ok (.goto 4, 3) := by decide +kernel
theorem dX6_letsNone_17 : decode cX6_letsNone 17 = .ok (.iconst 0, 1) := by decide +kernel
theorem dX6_letsNone_18 : decode cX6_letsNone 18 = .ok (.ireturn, 1) := by decide +kernel
theorem dX6_isFixed_0 : decode cX6_isFixed 0 = .ok (.aload_n 0, 1) := by decide +kernel
theorem dX6_isFixed_1 : decode cX6_isFixed 1 = .ok (.getfield 31, 3) := by decide +kernel
theorem dX6_isFixed_4 : decode cX6_isFixed 4 = .ok (.iload_n 1, 1) := by decide +kernel
theorem dX6_isFixed_5 : decode cX6_isFixed 5 = .ok (.invokestatic 62, 3) := by decide +kernel
theorem dX6_isFixed_8 : decode cX6_isFixed 8 = .ok (.ireturn, 1) := by decide +kernel
theorem dX6_isBound_0 : decode cX6_isBound 0 = .ok (.aload_n 0, 1) := by decide +kernel
theorem dX6_isBound_1 : decode cX6_isBound 1 = .ok (.getfield 27, 3) := by decide +kernel
theorem dX6_isBound_4 : decode cX6_isBound 4 = .ok (.iload_n 1, 1) := by decide +kernel
theorem dX6_isBound_5 : decode cX6_isBound 5 = .ok (.invokestatic 62, 3) := by decide +kernel
theorem dX6_isBound_8 : decode cX6_isBound 8 = .ok (.ireturn, 1) := by decide +kernel
theorem dX6_usedColumns_0 : decode cX6_usedColumns 0 = .ok (.aload_n 0, 1) := by decide +kernel
theorem dX6_usedColumns_1 : decode cX6_usedColumns 1 = .ok (.getfield 27, 3) := by decide +kernel
theorem dX6_usedColumns_4 : decode cX6_usedColumns 4 = .ok (.aload_n 0, 1) := by decide +kernel
theorem dX6_usedColumns_5 : decode cX6_usedColumns 5 = .ok (.getfield 34, 3) := by decide +kernel
theorem dX6_usedColumns_8 : decode cX6_usedColumns 8 = .ok (.ior, 1) := by decide +kernel
theorem dX6_usedColumns_9 : decode cX6_usedColumns 9 = .ok (.istore_n 1, 1) := by decide +kernel
theorem dX6_usedColumns_10 : decode cX6_usedColumns 10 = .ok (.aload_n 0, 1) := by decide +kernel
theorem dX6_usedColumns_11 : decode cX6_usedColumns 11 = .ok (.getfield 37, 3) := by decide +kernel
theorem dX6_usedColumns_14 : decode cX6_usedColumns 14 = .ok (.iconst (-1), 1) := by decide +kernel
theorem dX6_usedColumns_15 : decode cX6_usedColumns 15 = .ok (.if_icmp .ne 7, 3) := by decide +kernel
theorem dX6_usedColumns_18 : decode cX6_usedColumns 18 = .ok (.iload_n 1, 1) := by decide +kernel
theorem dX6_usedColumns_19 : decode cX6_usedColumns 19 = .ok (.goto 11, 3) := by decide +kernel
theorem dX6_usedColumns_22 : decode cX6_usedColumns 22 = .ok (.iload_n 1, 1) := by decide +kernel
theorem dX6_usedColumns_23 : decode cX6_usedColumns 23 = .ok (.aload_n 0, 1) := by decide +kernel
theorem dX6_usedColumns_24 : decode cX6_usedColumns 24 = .ok (.getfield 37, 3) := by decide +kernel
theorem dX6_usedColumns_27 : decode cX6_usedColumns 27 = .ok (.invokestatic 56, 3) := by decide +kernel
theorem dX6_usedColumns_30 : decode cX6_usedColumns 30 = .ok (.ireturn, 1) := by decide +kernel
theorem dX6_mustSort_0 : decode cX6_mustSort 0 = .ok (.aload_n 0, 1) := by decide +kernel
theorem dX6_mustSort_1 : decode cX6_mustSort 1 = .ok (.getfield 37, 3) := by decide +kernel
theorem dX6_mustSort_4 : decode cX6_mustSort 4 = .ok (.iconst (-1), 1) := by decide +kernel
theorem dX6_mustSort_5 : decode cX6_mustSort 5 = .ok (.if_icmp .eq 18, 3) := by decide +kernel
theorem dX6_mustSort_8 : decode cX6_mustSort 8 = .ok (.aload_n 0, 1) := by decide +kernel
theorem dX6_mustSort_9 : decode cX6_mustSort 9 = .ok (.aload_n 0, 1) := by decide +kernel
theorem dX6_mustSort_10 : decode cX6_mustSort 10 = .ok (.getfield 37, 3) := by decide +kernel
theorem dX6_mustSort_13 : decode cX6_mustSort 13 = .ok (.invokevirtual 72, 3) := by decide +kernel
theorem dX6_mustSort_16 : decode cX6_mustSort 16 = .ok (.ifCond .ne 7, 3) := by decide +kernel
theorem dX6_mustSort_19 : decode cX6_mustSort 19 = .ok (.iconst 1, 1) := by decide +kernel
theorem dX6_mustSort_20 : decode cX6_mustSort 20 = .ok (.goto 4, 3) := by decide +kernel
theorem dX6_mustSort_23 : decode cX6_mustSort 23 = .ok (.iconst 0, 1) := by decide +kernel
theorem dX6_mustSort_24 : decode cX6_mustSort 24 = .ok (.ireturn, 1) := by decide +kernel
theorem dX6_rowsWithin_0 : decode cX6_rowsWithin 0 = .ok (.aload_n 1, 1) := by decide +kernel
theorem dX6_rowsWithin_1 : decode cX6_rowsWithin 1 = .ok (.invokevirtual 76, 3) := by decide +kernel
theorem dX6_rowsWithin_4 : decode cX6_rowsWithin 4 = .ok (.lstore_n 3, 1) := by decide +kernel
theorem dX6_rowsWithin_5 : decode cX6_rowsWithin 5 = .ok (.iconst 0, 1) := by decide +kernel
theorem dX6_rowsWithin_6 : decode cX6_rowsWithin 6 = .ok (.istore 5, 2) := by decide +kernel
theorem dX6_rowsWithin_8 : decode cX6_rowsWithin 8 = .ok (.iload 5, 2) := by decide +kernel
theorem dX6_rowsWithin_10 : decode cX6_rowsWithin 10 = .ok (.iconst 4, 1) := by decide +kernel
theorem dX6_rowsWithin_11 : decode cX6_rowsWithin 11 = .ok (.if_icmp .ge 44, 3) := by decide +kernel
theorem dX6_rowsWithin_14 : decode cX6_rowsWithin 14 = .ok (.iload_n 2, 1) := by decide +kernel
theorem dX6_rowsWithin_15 : decode cX6_rowsWithin 15 = .ok (.aload_n 0, 1) := by decide +kernel
theorem dX6_rowsWithin_16 : decode cX6_rowsWithin 16 = .ok (.getfield 27, 3) := by decide +kernel
theorem dX6_rowsWithin_19 : decode cX6_rowsWithin 19 = .ok (.iand, 1) := by decide +kernel
theorem dX6_rowsWithin_20 : decode cX6_rowsWithin 20 = .ok (.iload 5, 2) := by decide +kernel
theorem dX6_rowsWithin_22 : decode cX6_rowsWithin 22 = .ok (.invokestatic 62, 3) := by decide +kernel
theorem dX6_rowsWithin_25 : decode cX6_rowsWithin 25 = .ok (.ifCond .eq 24, 3) := by decide +kernel
theorem dX6_rowsWithin_28 : decode cX6_rowsWithin 28 = .ok (.lload_n 3, 1) := by decide +kernel
theorem dX6_rowsWithin_29 : decode cX6_rowsWithin 29 = .ok (.aload_n 1, 1) := by decide +kernel
theorem dX6_rowsWithin_30 : decode cX6_rowsWithin 30 = .ok (.iload 5, 2) := by decide +kernel
theorem dX6_rowsWithin_32 : decode cX6_rowsWithin 32 = .ok (.aload_n 0, 1) := by decide +kernel
theorem dX6_rowsWithin_33 : decode cX6_rowsWithin 33 = .ok (.iload 5, 2) := by decide +kernel
theorem dX6_rowsWithin_35 : decode cX6_rowsWithin 35 = .ok (.invokevirtual 66, 3) := by decide +kernel
theorem dX6_rowsWithin_38 : decode cX6_rowsWithin 38 = .ok (.aload_n 0, 1) := by decide +kernel
theorem dX6_rowsWithin_39 : decode cX6_rowsWithin 39 = .ok (.iload 5, 2) := by decide +kernel
theorem dX6_rowsWithin_41 : decode cX6_rowsWithin 41 = .ok (.invokevirtual 69, 3) := by decide +kernel
theorem dX6_rowsWithin_44 : decode cX6_rowsWithin 44 = .ok (.invokevirtual 82, 3) := by decide +kernel
theorem dX6_rowsWithin_47 : decode cX6_rowsWithin 47 = .ok (.land, 1) := by decide +kernel
theorem dX6_rowsWithin_48 : decode cX6_rowsWithin 48 = .ok (.lstore_n 3, 1) := by decide +kernel
theorem dX6_rowsWithin_49 : decode cX6_rowsWithin 49 = .ok (.iinc 5 1, 3) := by decide +kernel
theorem dX6_rowsWithin_52 : decode cX6_rowsWithin 52 = .ok (.goto (-44), 3) := by decide +kernel
theorem dX6_rowsWithin_55 : decode cX6_rowsWithin 55 = .ok (.lload_n 3, 1) := by decide +kernel
theorem dX6_rowsWithin_56 : decode cX6_rowsWithin 56 = .ok (.lreturn, 1) := by decide +kernel
theorem dX6_placed_0 : decode cX6_placed 0 = .ok (.aload_n 0, 1) := by decide +kernel
theorem dX6_placed_1 : decode cX6_placed 1 = .ok (.aload_n 1, 1) := by decide +kernel
theorem dX6_placed_2 : decode cX6_placed 2 = .ok (.bipush 15, 2) := by decide +kernel
theorem dX6_placed_4 : decode cX6_placed 4 = .ok (.invokevirtual 86, 3) := by decide +kernel
theorem dX6_placed_7 : decode cX6_placed 7 = .ok (.lstore_n 3, 1) := by decide +kernel
theorem dX6_placed_8 : decode cX6_placed 8 = .ok (.iconst 0, 1) := by decide +kernel
theorem dX6_placed_9 : decode cX6_placed 9 = .ok (.istore 5, 2) := by decide +kernel
theorem dX6_placed_11 : decode cX6_placed 11 = .ok (.iload 5, 2) := by decide +kernel
theorem dX6_placed_13 : decode cX6_placed 13 = .ok (.bipush 64, 2) := by decide +kernel
theorem dX6_placed_15 : decode cX6_placed 15 = .ok (.if_icmp .ge 33, 3) := by decide +kernel
theorem dX6_placed_18 : decode cX6_placed 18 = .ok (.lload_n 3, 1) := by decide +kernel
theorem dX6_placed_19 : decode cX6_placed 19 = .ok (.iload 5, 2) := by decide +kernel
theorem dX6_placed_21 : decode cX6_placed 21 = .ok (.invokestatic 89, 3) := by decide +kernel
theorem dX6_placed_24 : decode cX6_placed 24 = .ok (.ifCond .eq 18, 3) := by decide +kernel
theorem dX6_placed_27 : decode cX6_placed 27 = .ok (.aload_n 0, 1) := by decide +kernel
theorem dX6_placed_28 : decode cX6_placed 28 = .ok (.aload_n 1, 1) := by decide +kernel
theorem dX6_placed_29 : decode cX6_placed 29 = .ok (.lload_n 3, 1) := by decide +kernel
theorem dX6_placed_30 : decode cX6_placed 30 = .ok (.iload 5, 2) := by decide +kernel
theorem dX6_placed_32 : decode cX6_placed 32 = .ok (.invokevirtual 93, 3) := by decide +kernel
theorem dX6_placed_35 : decode cX6_placed 35 = .ok (.iload_n 2, 1) := by decide +kernel
theorem dX6_placed_36 : decode cX6_placed 36 = .ok (.if_icmp .ne 6, 3) := by decide +kernel
theorem dX6_placed_39 : decode cX6_placed 39 = .ok (.iload 5, 2) := by decide +kernel
theorem dX6_placed_41 : decode cX6_placed 41 = .ok (.ireturn, 1) := by decide +kernel
theorem dX6_placed_42 : decode cX6_placed 42 = .ok (.iinc 5 1, 3) := by decide +kernel
theorem dX6_placed_45 : decode cX6_placed 45 = .ok (.goto (-34), 3) := by decide +kernel
theorem dX6_placed_48 : decode cX6_placed 48 = .ok (.iconst (-1), 1) := by decide +kernel
theorem dX6_placed_49 : decode cX6_placed 49 = .ok (.ireturn, 1) := by decide +kernel
theorem dX6_rowsAhead_0 : decode cX6_rowsAhead 0 = .ok (.aload_n 0, 1) := by decide +kernel
theorem dX6_rowsAhead_1 : decode cX6_rowsAhead 1 = .ok (.aload_n 1, 1) := by decide +kernel
theorem dX6_rowsAhead_2 : decode cX6_rowsAhead 2 = .ok (.iload 4, 2) := by decide +kernel
theorem dX6_rowsAhead_4 : decode cX6_rowsAhead 4 = .ok (.invokevirtual 97, 3) := by decide +kernel
theorem dX6_rowsAhead_7 : decode cX6_rowsAhead 7 = .ok (.istore 5, 2) := by decide +kernel
theorem dX6_rowsAhead_9 : decode cX6_rowsAhead 9 = .ok (.iconst 0, 1) := by decide +kernel
theorem dX6_rowsAhead_10 : decode cX6_rowsAhead 10 = .ok (.istore 6, 2) := by decide +kernel
theorem dX6_rowsAhead_12 : decode cX6_rowsAhead 12 = .ok (.iconst 0, 1) := by decide +kernel
theorem dX6_rowsAhead_13 : decode cX6_rowsAhead 13 = .ok (.istore 7, 2) := by decide +kernel
theorem dX6_rowsAhead_15 : decode cX6_rowsAhead 15 = .ok (.iload 7, 2) := by decide +kernel
theorem dX6_rowsAhead_17 : decode cX6_rowsAhead 17 = .ok (.bipush 64, 2) := by decide +kernel
theorem dX6_rowsAhead_19 : decode cX6_rowsAhead 19 = .ok (.if_icmp .ge 51, 3) := by decide +kernel
theorem dX6_rowsAhead_22 : decode cX6_rowsAhead 22 = .ok (.aload_n 0, 1) := by decide +kernel
theorem dX6_rowsAhead_23 : decode cX6_rowsAhead 23 = .ok (.aload_n 1, 1) := by decide +kernel
theorem dX6_rowsAhead_24 : decode cX6_rowsAhead 24 = .ok (.iload 7, 2) := by decide +kernel
theorem dX6_rowsAhead_26 : decode cX6_rowsAhead 26 = .ok (.invokevirtual 97, 3) := by decide +kernel
theorem dX6_rowsAhead_29 : decode cX6_rowsAhead 29 = .ok (.istore 8, 2) := by decide +kernel
theorem dX6_rowsAhead_31 : decode cX6_rowsAhead 31 = .ok (.lload_n 2, 1) := by decide +kernel
theorem dX6_rowsAhead_32 : decode cX6_rowsAhead 32 = .ok (.iload 7, 2) := by decide +kernel
theorem dX6_rowsAhead_34 : decode cX6_rowsAhead 34 = .ok (.invokestatic 89, 3) := by decide +kernel
theorem dX6_rowsAhead_37 : decode cX6_rowsAhead 37 = .ok (.ifCond .eq 27, 3) := by decide +kernel
theorem dX6_rowsAhead_40 : decode cX6_rowsAhead 40 = .ok (.iload 8, 2) := by decide +kernel
theorem dX6_rowsAhead_42 : decode cX6_rowsAhead 42 = .ok (.iload 5, 2) := by decide +kernel
theorem dX6_rowsAhead_44 : decode cX6_rowsAhead 44 = .ok (.if_icmp .lt 17, 3) := by decide +kernel
theorem dX6_rowsAhead_47 : decode cX6_rowsAhead 47 = .ok (.iload 8, 2) := by decide +kernel
theorem dX6_rowsAhead_49 : decode cX6_rowsAhead 49 = .ok (.iload 5, 2) := by decide +kernel
theorem dX6_rowsAhead_51 : decode cX6_rowsAhead 51 = .ok (.if_icmp .ne 13, 3) := by decide +kernel
theorem dX6_rowsAhead_54 : decode cX6_rowsAhead 54 = .ok (.iload 7, 2) := by decide +kernel
theorem dX6_rowsAhead_56 : decode cX6_rowsAhead 56 = .ok (.iload 4, 2) := by decide +kernel
theorem dX6_rowsAhead_58 : decode cX6_rowsAhead 58 = .ok (.if_icmp .ge 6, 3) := by decide +kernel
theorem dX6_rowsAhead_61 : decode cX6_rowsAhead 61 = .ok (.iinc 6 1, 3) := by decide +kernel
theorem dX6_rowsAhead_64 : decode cX6_rowsAhead 64 = .ok (.iinc 7 1, 3) := by decide +kernel
theorem dX6_rowsAhead_67 : decode cX6_rowsAhead 67 = .ok (.goto (-52), 3) := by decide +kernel
theorem dX6_rowsAhead_70 : decode cX6_rowsAhead 70 = .ok (.iload 6, 2) := by decide +kernel
theorem dX6_rowsAhead_72 : decode cX6_rowsAhead 72 = .ok (.ireturn, 1) := by decide +kernel
theorem dX6_sortNumber_0 : decode cX6_sortNumber 0 = .ok (.aload_n 0, 1) := by decide +kernel
theorem dX6_sortNumber_1 : decode cX6_sortNumber 1 = .ok (.getfield 37, 3) := by decide +kernel
theorem dX6_sortNumber_4 : decode cX6_sortNumber 4 = .ok (.iconst (-1), 1) := by decide +kernel
theorem dX6_sortNumber_5 : decode cX6_sortNumber 5 = .ok (.if_icmp .ne 7, 3) := by decide +kernel
theorem dX6_sortNumber_8 : decode cX6_sortNumber 8 = .ok (.iconst 0, 1) := by decide +kernel
theorem dX6_sortNumber_9 : decode cX6_sortNumber 9 = .ok (.goto 12, 3) := by decide +kernel
theorem dX6_sortNumber_12 : decode cX6_sortNumber 12 = .ok (.aload_n 1, 1) := by decide +kernel
theorem dX6_sortNumber_13 : decode cX6_sortNumber 13 = .ok (.iload_n 2, 1) := by decide +kernel
theorem dX6_sortNumber_14 : decode cX6_sortNumber 14 = .ok (.aload_n 0, 1) := by decide +kernel
theorem dX6_sortNumber_15 : decode cX6_sortNumber 15 = .ok (.getfield 37, 3) := by decide +kernel
theorem dX6_sortNumber_18 : decode cX6_sortNumber 18 = .ok (.invokevirtual 101, 3) := by decide +kernel
theorem dX6_sortNumber_21 : decode cX6_sortNumber 21 = .ok (.ireturn, 1) := by decide +kernel
theorem dX7_init_0 : decode cX7_init 0 = .ok (.aload_n 0, 1) := by decide +kernel
theorem dX7_init_1 : decode cX7_init 1 = .ok (.invokespecial 3, 3) := by decide +kernel
theorem dX7_init_4 : decode cX7_init 4 = .ok (.aload_n 0, 1) := by decide +kernel
theorem dX7_init_5 : decode cX7_init 5 = .ok (.new 9, 3) := by decide +kernel
theorem dX7_init_8 : decode cX7_init 8 = .ok (.dup, 1) := by decide +kernel
theorem dX7_init_9 : decode cX7_init 9 = .ok (.bipush 60, 2) := by decide +kernel
theorem dX7_init_11 : decode cX7_init 11 = .ok (.invokespecial 11, 3) := by decide +kernel
theorem dX7_init_14 : decode cX7_init 14 = .ok (.putfield 14, 3) := by decide +kernel
theorem dX7_init_17 : decode cX7_init 17 = .ok (.aload_n 0, 1) := by decide +kernel
theorem dX7_init_18 : decode cX7_init 18 = .ok (.new 20, 3) := by decide +kernel
theorem dX7_init_21 : decode cX7_init 21 = .ok (.dup, 1) := by decide +kernel
theorem dX7_init_22 : decode cX7_init 22 = .ok (.invokespecial 22, 3) := by decide +kernel
theorem dX7_init_25 : decode cX7_init 25 = .ok (.putfield 23, 3) := by decide +kernel
theorem dX7_init_28 : decode cX7_init 28 = .ok (.return_, 1) := by decide +kernel
theorem dX7_length_0 : decode cX7_length 0 = .ok (.aload_n 0, 1) := by decide +kernel
theorem dX7_length_1 : decode cX7_length 1 = .ok (.getfield 27, 3) := by decide +kernel
theorem dX7_length_4 : decode cX7_length 4 = .ok (.ireturn, 1) := by decide +kernel
theorem dX7_write_0 : decode cX7_write 0 = .ok (.aload_n 0, 1) := by decide +kernel
theorem dX7_write_1 : decode cX7_write 1 = .ok (.getfield 14, 3) := by decide +kernel
theorem dX7_write_4 : decode cX7_write 4 = .ok (.aload_n 0, 1) := by decide +kernel
theorem dX7_write_5 : decode cX7_write 5 = .ok (.getfield 27, 3) := by decide +kernel
theorem dX7_write_8 : decode cX7_write 8 = .ok (.iload_n 1, 1) := by decide +kernel
theorem dX7_write_9 : decode cX7_write 9 = .ok (.invokevirtual 35, 3) := by decide +kernel
theorem dX7_write_12 : decode cX7_write 12 = .ok (.aload_n 0, 1) := by decide +kernel
theorem dX7_write_13 : decode cX7_write 13 = .ok (.dup, 1) := by decide +kernel
theorem dX7_write_14 : decode cX7_write 14 = .ok (.getfield 27, 3) := by decide +kernel
theorem dX7_write_17 : decode cX7_write 17 = .ok (.iconst 1, 1) := by decide +kernel
theorem dX7_write_18 : decode cX7_write 18 = .ok (.iadd, 1) := by decide +kernel
theorem dX7_write_19 : decode cX7_write 19 = .ok (.putfield 27, 3) := by decide +kernel
theorem dX7_write_22 : decode cX7_write 22 = .ok (.return_, 1) := by decide +kernel
theorem dX7_clear_0 : decode cX7_clear 0 = .ok (.aload_n 0, 1) := by decide +kernel
theorem dX7_clear_1 : decode cX7_clear 1 = .ok (.iconst 0, 1) := by decide +kernel
theorem dX7_clear_2 : decode cX7_clear 2 = .ok (.putfield 27, 3) := by decide +kernel
theorem dX7_clear_5 : decode cX7_clear 5 = .ok (.return_, 1) := by decide +kernel
theorem dX7_read_0 : decode cX7_read 0 = .ok (.aload_n 0, 1) := by decide +kernel
theorem dX7_read_1 : decode cX7_read 1 = .ok (.getfield 23, 3) := by decide +kernel
theorem dX7_read_4 : decode cX7_read 4 = .ok (.invokevirtual 39, 3) := by decide +kernel
theorem dX7_read_7 : decode cX7_read 7 = .ok (.aload_n 0, 1) := by decide +kernel
theorem dX7_read_8 : decode cX7_read 8 = .ok (.iconst 0, 1) := by decide +kernel
theorem dX7_read_9 : decode cX7_read 9 = .ok (.putfield 42, 3) := by decide +kernel
theorem dX7_read_12 : decode cX7_read 12 = .ok (.iconst 0, 1) := by decide +kernel
theorem dX7_read_13 : decode cX7_read 13 = .ok (.istore_n 1, 1) := by decide +kernel
theorem dX7_read_14 : decode cX7_read 14 = .ok (.iload_n 1, 1) := by decide +kernel
theorem dX7_read_15 : decode cX7_read 15 = .ok (.aload_n 0, 1) := by decide +kernel
theorem dX7_read_16 : decode cX7_read 16 = .ok (.getfield 27, 3) := by decide +kernel
theorem dX7_read_19 : decode cX7_read 19 = .ok (.if_icmp .ge 24, 3) := by decide +kernel
theorem dX7_read_22 : decode cX7_read 22 = .ok (.aload_n 0, 1) := by decide +kernel
theorem dX7_read_23 : decode cX7_read 23 = .ok (.aload_n 0, 1) := by decide +kernel
theorem dX7_read_24 : decode cX7_read 24 = .ok (.getfield 14, 3) := by decide +kernel
theorem dX7_read_27 : decode cX7_read 27 = .ok (.iload_n 1, 1) := by decide +kernel
theorem dX7_read_28 : decode cX7_read 28 = .ok (.invokevirtual 31, 3) := by decide +kernel
theorem dX7_read_31 : decode cX7_read 31 = .ok (.invokevirtual 45, 3) := by decide +kernel
theorem dX7_read_34 : decode cX7_read 34 = .ok (.ifCond .eq 9, 3) := by decide +kernel
theorem dX7_read_37 : decode cX7_read 37 = .ok (.iinc 1 1, 3) := by decide +kernel
theorem dX7_read_40 : decode cX7_read 40 = .ok (.goto (-26), 3) := by decide +kernel
theorem dX7_read_43 : decode cX7_read 43 = .ok (.iload_n 1, 1) := by decide +kernel
theorem dX7_read_44 : decode cX7_read 44 = .ok (.ireturn, 1) := by decide +kernel
theorem dX7_isWhole_0 : decode cX7_isWhole 0 = .ok (.aload_n 0, 1) := by decide +kernel
theorem dX7_isWhole_1 : decode cX7_isWhole 1 = .ok (.getfield 42, 3) := by decide +kernel
theorem dX7_isWhole_4 : decode cX7_isWhole 4 = .ok (.bipush 7, 2) := by decide +kernel
theorem dX7_isWhole_6 : decode cX7_isWhole 6 = .ok (.if_icmp .eq 12, 3) := by decide +kernel
theorem dX7_isWhole_9 : decode cX7_isWhole 9 = .ok (.aload_n 0, 1) := by decide +kernel
theorem dX7_isWhole_10 : decode cX7_isWhole 10 = .ok (.getfield 42, 3) := by decide +kernel
theorem dX7_isWhole_13 : decode cX7_isWhole 13 = .ok (.bipush 9, 2) := by decide +kernel
theorem dX7_isWhole_15 : decode cX7_isWhole 15 = .ok (.if_icmp .ne 7, 3) := by decide +kernel
theorem dX7_isWhole_18 : decode cX7_isWhole 18 = .ok (.iconst 1, 1) := by decide +kernel
theorem dX7_isWhole_19 : decode cX7_isWhole 19 = .ok (.goto 4, 3) := by decide +kernel
theorem dX7_isWhole_22 : decode cX7_isWhole 22 = .ok (.iconst 0, 1) := by decide +kernel
theorem dX7_isWhole_23 : decode cX7_isWhole 23 = .ok (.ireturn, 1) := by decide +kernel
theorem dX7_handOver_0 : decode cX7_handOver 0 = .ok (.aload_n 0, 1) := by decide +kernel
theorem dX7_handOver_1 : decode cX7_handOver 1 = .ok (.getfield 23, 3) := by decide +kernel
theorem dX7_handOver_4 : decode cX7_handOver 4 = .ok (.astore_n 1, 1) := by decide +kernel
theorem dX7_handOver_5 : decode cX7_handOver 5 = .ok (.aload_n 0, 1) := by decide +kernel
theorem dX7_handOver_6 : decode cX7_handOver 6 = .ok (.new 20, 3) := by decide +kernel
theorem dX7_handOver_9 : decode cX7_handOver 9 = .ok (.dup, 1) := by decide +kernel
theorem dX7_handOver_10 : decode cX7_handOver 10 = .ok (.invokespecial 22, 3) := by decide +kernel
theorem dX7_handOver_13 : decode cX7_handOver 13 = .ok (.putfield 23, 3) := by decide +kernel
theorem dX7_handOver_16 : decode cX7_handOver 16 = .ok (.aload_n 1, 1) := by decide +kernel
theorem dX7_handOver_17 : decode cX7_handOver 17 = .ok (.areturn, 1) := by decide +kernel
theorem dX7_takes_0 : decode cX7_takes 0 = .ok (.aload_n 0, 1) := by decide +kernel
theorem dX7_takes_1 : decode cX7_takes 1 = .ok (.getfield 42, 3) := by decide +kernel
theorem dX7_takes_4 : decode cX7_takes 4 = .ok (.tableswitch 162 0 8 #[52, 73, 79, 85, 93, 123, 129, 135, 156], 52) := by decide +kernel
theorem dX7_takes_56 : decode cX7_takes 56 = .ok (.iload_n 1, 1) := by decide +kernel
theorem dX7_takes_57 : decode cX7_takes 57 = .ok (.bipush 58, 2) := by decide +kernel
theorem dX7_takes_59 : decode cX7_takes 59 = .ok (.if_icmp .ne 12, 3) := by decide +kernel
theorem dX7_takes_62 : decode cX7_takes 62 = .ok (.aload_n 0, 1) := by decide +kernel
theorem dX7_takes_63 : decode cX7_takes 63 = .ok (.bipush 6, 2) := by decide +kernel
theorem dX7_takes_65 : decode cX7_takes 65 = .ok (.invokevirtual 49, 3) := by decide +kernel
theorem dX7_takes_68 : decode cX7_takes 68 = .ok (.goto 8, 3) := by decide +kernel
theorem dX7_takes_71 : decode cX7_takes 71 = .ok (.aload_n 0, 1) := by decide +kernel
theorem dX7_takes_72 : decode cX7_takes 72 = .ok (.iload_n 1, 1) := by decide +kernel
theorem dX7_takes_73 : decode cX7_takes 73 = .ok (.invokevirtual 52, 3) := by decide +kernel
theorem dX7_takes_76 : decode cX7_takes 76 = .ok (.ireturn, 1) := by decide +kernel
theorem dX7_takes_77 : decode cX7_takes 77 = .ok (.aload_n 0, 1) := by decide +kernel
theorem dX7_takes_78 : decode cX7_takes 78 = .ok (.iload_n 1, 1) := by decide +kernel
theorem dX7_takes_79 : decode cX7_takes 79 = .ok (.invokevirtual 52, 3) := by decide +kernel
theorem dX7_takes_82 : decode cX7_takes 82 = .ok (.ireturn, 1) := by decide +kernel
theorem dX7_takes_83 : decode cX7_takes 83 = .ok (.aload_n 0, 1) := by decide +kernel
theorem dX7_takes_84 : decode cX7_takes 84 = .ok (.iload_n 1, 1) := by decide +kernel
theorem dX7_takes_85 : decode cX7_takes 85 = .ok (.invokevirtual 55, 3) := by decide +kernel
theorem dX7_takes_88 : decode cX7_takes 88 = .ok (.ireturn, 1) := by decide +kernel
theorem dX7_takes_89 : decode cX7_takes 89 = .ok (.aload_n 0, 1) := by decide +kernel
theorem dX7_takes_90 : decode cX7_takes 90 = .ok (.iload_n 1, 1) := by decide +kernel
theorem dX7_takes_91 : decode cX7_takes 91 = .ok (.iconst 0, 1) := by decide +kernel
theorem dX7_takes_92 : decode cX7_takes 92 = .ok (.iconst 4, 1) := by decide +kernel
theorem dX7_takes_93 : decode cX7_takes 93 = .ok (.invokevirtual 58, 3) := by decide +kernel
theorem dX7_takes_96 : decode cX7_takes 96 = .ok (.ireturn, 1) := by decide +kernel
theorem dX7_takes_97 : decode cX7_takes 97 = .ok (.aload_n 0, 1) := by decide +kernel
theorem dX7_takes_98 : decode cX7_takes 98 = .ok (.iload_n 1, 1) := by decide +kernel
theorem dX7_takes_99 : decode cX7_takes 99 = .ok (.bipush 10, 2) := by decide +kernel
theorem dX7_takes_101 : decode cX7_takes 101 = .ok (.aload_n 0, 1) := by decide +kernel
theorem dX7_takes_102 : decode cX7_takes 102 = .ok (.getfield 62, 3) := by decide +kernel
theorem dX7_takes_105 : decode cX7_takes 105 = .ok (.imul, 1) := by decide +kernel
theorem dX7_takes_106 : decode cX7_takes 106 = .ok (.iconst 5, 1) := by decide +kernel
theorem dX7_takes_107 : decode cX7_takes 107 = .ok (.invokevirtual 58, 3) := by decide +kernel
theorem dX7_takes_110 : decode cX7_takes 110 = .ok (.ifCond .ne 11, 3) := by decide +kernel
theorem dX7_takes_113 : decode cX7_takes 113 = .ok (.aload_n 0, 1) := by decide +kernel
theorem dX7_takes_114 : decode cX7_takes 114 = .ok (.iload_n 1, 1) := by decide +kernel
theorem dX7_takes_115 : decode cX7_takes 115 = .ok (.invokevirtual 65, 3) := by decide +kernel
theorem dX7_takes_118 : decode cX7_takes 118 = .ok (.ifCond .eq 7, 3) := by decide +kernel
theorem dX7_takes_121 : decode cX7_takes 121 = .ok (.iconst 1, 1) := by decide +kernel
theorem dX7_takes_122 : decode cX7_takes 122 = .ok (.goto 4, 3) := by decide +kernel
theorem dX7_takes_125 : decode cX7_takes 125 = .ok (.iconst 0, 1) := by decide +kernel
theorem dX7_takes_126 : decode cX7_takes 126 = .ok (.ireturn, 1) := by decide +kernel
theorem dX7_takes_127 : decode cX7_takes 127 = .ok (.aload_n 0, 1) := by decide +kernel
theorem dX7_takes_128 : decode cX7_takes 128 = .ok (.iload_n 1, 1) := by decide +kernel
theorem dX7_takes_129 : decode cX7_takes 129 = .ok (.invokevirtual 65, 3) := by decide +kernel
theorem dX7_takes_132 : decode cX7_takes 132 = .ok (.ireturn, 1) := by decide +kernel
theorem dX7_takes_133 : decode cX7_takes 133 = .ok (.aload_n 0, 1) := by decide +kernel
theorem dX7_takes_134 : decode cX7_takes 134 = .ok (.iload_n 1, 1) := by decide +kernel
theorem dX7_takes_135 : decode cX7_takes 135 = .ok (.invokevirtual 68, 3) := by decide +kernel
theorem dX7_takes_138 : decode cX7_takes 138 = .ok (.ireturn, 1) := by decide +kernel
theorem dX7_takes_139 : decode cX7_takes 139 = .ok (.iload_n 1, 1) := by decide +kernel
theorem dX7_takes_140 : decode cX7_takes 140 = .ok (.bipush 47, 2) := by decide +kernel
theorem dX7_takes_142 : decode cX7_takes 142 = .ok (.if_icmp .ne 12, 3) := by decide +kernel
theorem dX7_takes_145 : decode cX7_takes 145 = .ok (.aload_n 0, 1) := by decide +kernel
theorem dX7_takes_146 : decode cX7_takes 146 = .ok (.bipush 8, 2) := by decide +kernel
theorem dX7_takes_148 : decode cX7_takes 148 = .ok (.invokevirtual 49, 3) := by decide +kernel
theorem dX7_takes_151 : decode cX7_takes 151 = .ok (.goto 8, 3) := by decide +kernel
theorem dX7_takes_154 : decode cX7_takes 154 = .ok (.aload_n 0, 1) := by decide +kernel
theorem dX7_takes_155 : decode cX7_takes 155 = .ok (.iload_n 1, 1) := by decide +kernel
theorem dX7_takes_156 : decode cX7_takes 156 = .ok (.invokevirtual 68, 3) := by decide +kernel
theorem dX7_takes_159 : decode cX7_takes 159 = .ok (.ireturn, 1) := by decide +kernel
theorem dX7_takes_160 : decode cX7_takes 160 = .ok (.aload_n 0, 1) := by decide +kernel
theorem dX7_takes_161 : decode cX7_takes 161 = .ok (.iload_n 1, 1) := by decide +kernel
theorem dX7_takes_162 : decode cX7_takes 162 = .ok (.invokevirtual 71, 3) := by decide +kernel
theorem dX7_takes_165 : decode cX7_takes 165 = .ok (.ireturn, 1) := by decide +kernel
theorem dX7_takes_166 : decode cX7_takes 166 = .ok (.iconst 0, 1) := by decide +kernel
theorem dX7_takes_167 : decode cX7_takes 167 = .ok (.ireturn, 1) := by decide +kernel
theorem dX7_moves_0 : decode cX7_moves 0 = .ok (.aload_n 0, 1) := by decide +kernel
theorem dX7_moves_1 : decode cX7_moves 1 = .ok (.iload_n 1, 1) := by decide +kernel
theorem dX7_moves_2 : decode cX7_moves 2 = .ok (.putfield 42, 3) := by decide +kernel
theorem dX7_moves_5 : decode cX7_moves 5 = .ok (.iconst 1, 1) := by decide +kernel
theorem dX7_moves_6 : decode cX7_moves 6 = .ok (.ireturn, 1) := by decide +kernel
theorem dX7_isLetter_0 : decode cX7_isLetter 0 = .ok (.iload_n 0, 1) := by decide +kernel
theorem dX7_isLetter_1 : decode cX7_isLetter 1 = .ok (.bipush 97, 2) := by decide +kernel
theorem dX7_isLetter_3 : decode cX7_isLetter 3 = .ok (.if_icmp .lt 13, 3) := by decide +kernel
theorem dX7_isLetter_6 : decode cX7_isLetter 6 = .ok (.iload_n 0, 1) := by decide +kernel
theorem dX7_isLetter_7 : decode cX7_isLetter 7 = .ok (.bipush 100, 2) := by decide +kernel
theorem dX7_isLetter_9 : decode cX7_isLetter 9 = .ok (.if_icmp .gt 7, 3) := by decide +kernel
theorem dX7_isLetter_12 : decode cX7_isLetter 12 = .ok (.iconst 1, 1) := by decide +kernel
theorem dX7_isLetter_13 : decode cX7_isLetter 13 = .ok (.goto 4, 3) := by decide +kernel
theorem dX7_isLetter_16 : decode cX7_isLetter 16 = .ok (.iconst 0, 1) := by decide +kernel
theorem dX7_isLetter_17 : decode cX7_isLetter 17 = .ok (.ireturn, 1) := by decide +kernel
theorem dX7_takesColumn_0 : decode cX7_takesColumn 0 = .ok (.iload_n 1, 1) := by decide +kernel
theorem dX7_takesColumn_1 : decode cX7_takesColumn 1 = .ok (.invokestatic 74, 3) := by decide +kernel
theorem dX7_takesColumn_4 : decode cX7_takesColumn 4 = .ok (.ifCond .ne 5, 3) := by decide +kernel
theorem dX7_takesColumn_7 : decode cX7_takesColumn 7 = .ok (.iconst 0, 1) := by decide +kernel
theorem dX7_takesColumn_8 : decode cX7_takesColumn 8 = .ok (.ireturn, 1) := by decide +kernel
theorem dX7_takesColumn_9 : decode cX7_takesColumn 9 = .ok (.aload_n 0, 1) := by decide +kernel
theorem dX7_takesColumn_10 : decode cX7_takesColumn 10 = .ok (.iload_n 1, 1) := by decide +kernel
theorem dX7_takesColumn_11 : decode cX7_takesColumn 11 = .ok (.bipush 97, 2) := by decide +kernel
theorem dX7_takesColumn_13 : decode cX7_takesColumn 13 = .ok (.isub, 1) := by decide +kernel
theorem dX7_takesColumn_14 : decode cX7_takesColumn 14 = .ok (.putfield 77, 3) := by decide +kernel
theorem dX7_takesColumn_17 : decode cX7_takesColumn 17 = .ok (.aload_n 0, 1) := by decide +kernel
theorem dX7_takesColumn_18 : decode cX7_takesColumn 18 = .ok (.iconst 2, 1) := by decide +kernel
theorem dX7_takesColumn_19 : decode cX7_takesColumn 19 = .ok (.invokevirtual 49, 3) := by decide +kernel
theorem dX7_takesColumn_22 : decode cX7_takesColumn 22 = .ok (.ireturn, 1) := by decide +kernel
theorem dX7_takesSign_0 : decode cX7_takesSign 0 = .ok (.iload_n 1, 1) := by decide +kernel
theorem dX7_takesSign_1 : decode cX7_takesSign 1 = .ok (.bipush 60, 2) := by decide +kernel
theorem dX7_takesSign_3 : decode cX7_takesSign 3 = .ok (.if_icmp .eq 17, 3) := by decide +kernel
theorem dX7_takesSign_6 : decode cX7_takesSign 6 = .ok (.iload_n 1, 1) := by decide +kernel
theorem dX7_takesSign_7 : decode cX7_takesSign 7 = .ok (.bipush 61, 2) := by decide +kernel
theorem dX7_takesSign_9 : decode cX7_takesSign 9 = .ok (.if_icmp .eq 11, 3) := by decide +kernel
theorem dX7_takesSign_12 : decode cX7_takesSign 12 = .ok (.iload_n 1, 1) := by decide +kernel
theorem dX7_takesSign_13 : decode cX7_takesSign 13 = .ok (.bipush 62, 2) := by decide +kernel
theorem dX7_takesSign_15 : decode cX7_takesSign 15 = .ok (.if_icmp .eq 5, 3) := by decide +kernel
theorem dX7_takesSign_18 : decode cX7_takesSign 18 = .ok (.iconst 0, 1) := by decide +kernel
theorem dX7_takesSign_19 : decode cX7_takesSign 19 = .ok (.ireturn, 1) := by decide +kernel
theorem dX7_takesSign_20 : decode cX7_takesSign 20 = .ok (.aload_n 0, 1) := by decide +kernel
theorem dX7_takesSign_21 : decode cX7_takesSign 21 = .ok (.iload_n 1, 1) := by decide +kernel
theorem dX7_takesSign_22 : decode cX7_takesSign 22 = .ok (.putfield 80, 3) := by decide +kernel
theorem dX7_takesSign_25 : decode cX7_takesSign 25 = .ok (.aload_n 0, 1) := by decide +kernel
theorem dX7_takesSign_26 : decode cX7_takesSign 26 = .ok (.iconst 3, 1) := by decide +kernel
theorem dX7_takesSign_27 : decode cX7_takesSign 27 = .ok (.invokevirtual 49, 3) := by decide +kernel
theorem dX7_takesSign_30 : decode cX7_takesSign 30 = .ok (.ireturn, 1) := by decide +kernel
theorem dX7_takesDigit_0 : decode cX7_takesDigit 0 = .ok (.iload_n 1, 1) := by decide +kernel
theorem dX7_takesDigit_1 : decode cX7_takesDigit 1 = .ok (.bipush 48, 2) := by decide +kernel
theorem dX7_takesDigit_3 : decode cX7_takesDigit 3 = .ok (.if_icmp .lt 9, 3) := by decide +kernel
theorem dX7_takesDigit_6 : decode cX7_takesDigit 6 = .ok (.iload_n 1, 1) := by decide +kernel
theorem dX7_takesDigit_7 : decode cX7_takesDigit 7 = .ok (.bipush 57, 2) := by decide +kernel
theorem dX7_takesDigit_9 : decode cX7_takesDigit 9 = .ok (.if_icmp .le 5, 3) := by decide +kernel
theorem dX7_takesDigit_12 : decode cX7_takesDigit 12 = .ok (.iconst 0, 1) := by decide +kernel
theorem dX7_takesDigit_13 : decode cX7_takesDigit 13 = .ok (.ireturn, 1) := by decide +kernel
theorem dX7_takesDigit_14 : decode cX7_takesDigit 14 = .ok (.aload_n 0, 1) := by decide +kernel
theorem dX7_takesDigit_15 : decode cX7_takesDigit 15 = .ok (.iload_n 2, 1) := by decide +kernel
theorem dX7_takesDigit_16 : decode cX7_takesDigit 16 = .ok (.iload_n 1, 1) := by decide +kernel
theorem dX7_takesDigit_17 : decode cX7_takesDigit 17 = .ok (.iadd, 1) := by decide +kernel
theorem dX7_takesDigit_18 : decode cX7_takesDigit 18 = .ok (.bipush 48, 2) := by decide +kernel
theorem dX7_takesDigit_20 : decode cX7_takesDigit 20 = .ok (.isub, 1) := by decide +kernel
theorem dX7_takesDigit_21 : decode cX7_takesDigit 21 = .ok (.putfield 62, 3) := by decide +kernel
theorem dX7_takesDigit_24 : decode cX7_takesDigit 24 = .ok (.aload_n 0, 1) := by decide +kernel
theorem dX7_takesDigit_25 : decode cX7_takesDigit 25 = .ok (.iload_n 3, 1) := by decide +kernel
theorem dX7_takesDigit_26 : decode cX7_takesDigit 26 = .ok (.invokevirtual 49, 3) := by decide +kernel
theorem dX7_takesDigit_29 : decode cX7_takesDigit 29 = .ok (.ireturn, 1) := by decide +kernel
theorem dX7_endsCondition_0 : decode cX7_endsCondition 0 = .ok (.iload_n 1, 1) := by decide +kernel
theorem dX7_endsCondition_1 : decode cX7_endsCondition 1 = .ok (.bipush 38, 2) := by decide +kernel
theorem dX7_endsCondition_3 : decode cX7_endsCondition 3 = .ok (.if_icmp .eq 11, 3) := by decide +kernel
theorem dX7_endsCondition_6 : decode cX7_endsCondition 6 = .ok (.iload_n 1, 1) := by decide +kernel
theorem dX7_endsCondition_7 : decode cX7_endsCondition 7 = .ok (.bipush 58, 2) := by decide +kernel
theorem dX7_endsCondition_9 : decode cX7_endsCondition 9 = .ok (.if_icmp .eq 5, 3) := by decide +kernel
theorem dX7_endsCondition_12 : decode cX7_endsCondition 12 = .ok (.iconst 0, 1) := by decide +kernel
theorem dX7_endsCondition_13 : decode cX7_endsCondition 13 = .ok (.ireturn, 1) := by decide +kernel
theorem dX7_endsCondition_14 : decode cX7_endsCondition 14 = .ok (.aload_n 0, 1) := by decide +kernel
theorem dX7_endsCondition_15 : decode cX7_endsCondition 15 = .ok (.getfield 80, 3) := by decide +kernel
theorem dX7_endsCondition_18 : decode cX7_endsCondition 18 = .ok (.bipush 60, 2) := by decide +kernel
theorem dX7_endsCondition_20 : decode cX7_endsCondition 20 = .ok (.if_icmp .ne 24, 3) := by decide +kernel
theorem dX7_endsCondition_23 : decode cX7_endsCondition 23 = .ok (.aload_n 0, 1) := by decide +kernel
theorem dX7_endsCondition_24 : decode cX7_endsCondition 24 = .ok (.getfield 23, 3) := by decide +kernel
theorem dX7_endsCondition_27 : decode cX7_endsCondition 27 = .ok (.aload_n 0, 1) := by decide +kernel
theorem dX7_endsCondition_28 : decode cX7_endsCondition 28 = .ok (.getfield 77, 3) := by decide +kernel
theorem dX7_endsCondition_31 : decode cX7_endsCondition 31 = .ok (.iconst 0, 1) := by decide +kernel
theorem dX7_endsCondition_32 : decode cX7_endsCondition 32 = .ok (.aload_n 0, 1) := by decide +kernel
theorem dX7_endsCondition_33 : decode cX7_endsCondition 33 = .ok (.getfield 62, 3) := by decide +kernel
theorem dX7_endsCondition_36 : decode cX7_endsCondition 36 = .ok (.iconst 1, 1) := by decide +kernel
theorem dX7_endsCondition_37 : decode cX7_endsCondition 37 = .ok (.isub, 1) := by decide +kernel
theorem dX7_endsCondition_38 : decode cX7_endsCondition 38 = .ok (.invokevirtual 83, 3) := by decide +kernel
theorem dX7_endsCondition_41 : decode cX7_endsCondition 41 = .ok (.goto 53, 3) := by decide +kernel
theorem dX7_endsCondition_44 : decode cX7_endsCondition 44 = .ok (.aload_n 0, 1) := by decide +kernel
theorem dX7_endsCondition_45 : decode cX7_endsCondition 45 = .ok (.getfield 80, 3) := by decide +kernel
theorem dX7_endsCondition_48 : decode cX7_endsCondition 48 = .ok (.bipush 62, 2) := by decide +kernel
theorem dX7_endsCondition_50 : decode cX7_endsCondition 50 = .ok (.if_icmp .ne 25, 3) := by decide +kernel
theorem dX7_endsCondition_53 : decode cX7_endsCondition 53 = .ok (.aload_n 0, 1) := by decide +kernel
theorem dX7_endsCondition_54 : decode cX7_endsCondition 54 = .ok (.getfield 23, 3) := by decide +kernel
theorem dX7_endsCondition_57 : decode cX7_endsCondition 57 = .ok (.aload_n 0, 1) := by decide +kernel
theorem dX7_endsCondition_58 : decode cX7_endsCondition 58 = .ok (.getfield 77, 3) := by decide +kernel
theorem dX7_endsCondition_61 : decode cX7_endsCondition 61 = .ok (.aload_n 0, 1) := by decide +kernel
theorem dX7_endsCondition_62 : decode cX7_endsCondition 62 = .ok (.getfield 62, 3) := by decide +kernel
theorem dX7_endsCondition_65 : decode cX7_endsCondition 65 = .ok (.iconst 1, 1) := by decide +kernel
theorem dX7_endsCondition_66 : decode cX7_endsCondition 66 = .ok (.iadd, 1) := by decide +kernel
theorem dX7_endsCondition_67 : decode cX7_endsCondition 67 = .ok (.bipush 99, 2) := by decide +kernel
theorem dX7_endsCondition_69 : decode cX7_endsCondition 69 = .ok (.invokevirtual 83, 3) := by decide +kernel
theorem dX7_endsCondition_72 : decode cX7_endsCondition 72 = .ok (.goto 22, 3) := by decide +kernel
theorem dX7_endsCondition_75 : decode cX7_endsCondition 75 = .ok (.aload_n 0, 1) := by decide +kernel
theorem dX7_endsCondition_76 : decode cX7_endsCondition 76 = .ok (.getfield 23, 3) := by decide +kernel
theorem dX7_endsCondition_79 : decode cX7_endsCondition 79 = .ok (.aload_n 0, 1) := by decide +kernel
theorem dX7_endsCondition_80 : decode cX7_endsCondition 80 = .ok (.getfield 77, 3) := by decide +kernel
theorem dX7_endsCondition_83 : decode cX7_endsCondition 83 = .ok (.aload_n 0, 1) := by decide +kernel
theorem dX7_endsCondition_84 : decode cX7_endsCondition 84 = .ok (.getfield 62, 3) := by decide +kernel
theorem dX7_endsCondition_87 : decode cX7_endsCondition 87 = .ok (.aload_n 0, 1) := by decide +kernel
theorem dX7_endsCondition_88 : decode cX7_endsCondition 88 = .ok (.getfield 62, 3) := by decide +kernel
theorem dX7_endsCondition_91 : decode cX7_endsCondition 91 = .ok (.invokevirtual 83, 3) := by decide +kernel
theorem dX7_endsCondition_94 : decode cX7_endsCondition 94 = .ok (.aload_n 0, 1) := by decide +kernel
theorem dX7_endsCondition_95 : decode cX7_endsCondition 95 = .ok (.iload_n 1, 1) := by decide +kernel
theorem dX7_endsCondition_96 : decode cX7_endsCondition 96 = .ok (.bipush 38, 2) := by decide +kernel
theorem dX7_endsCondition_98 : decode cX7_endsCondition 98 = .ok (.if_icmp .ne 7, 3) := by decide +kernel
theorem dX7_endsCondition_101 : decode cX7_endsCondition 101 = .ok (.iconst 1, 1) := by decide +kernel
theorem dX7_endsCondition_102 : decode cX7_endsCondition 102 = .ok (.goto 5, 3) := by decide +kernel
theorem dX7_endsCondition_105 : decode cX7_endsCondition 105 = .ok (.bipush 6, 2) := by decide +kernel
theorem dX7_endsCondition_107 : decode cX7_endsCondition 107 = .ok (.invokevirtual 49, 3) := by decide +kernel
theorem dX7_endsCondition_110 : decode cX7_endsCondition 110 = .ok (.ireturn, 1) := by decide +kernel
theorem dX7_takesShown_0 : decode cX7_takesShown 0 = .ok (.iload_n 1, 1) := by decide +kernel
theorem dX7_takesShown_1 : decode cX7_takesShown 1 = .ok (.invokestatic 74, 3) := by decide +kernel
theorem dX7_takesShown_4 : decode cX7_takesShown 4 = .ok (.ifCond .eq 17, 3) := by decide +kernel
theorem dX7_takesShown_7 : decode cX7_takesShown 7 = .ok (.aload_n 0, 1) := by decide +kernel
theorem dX7_takesShown_8 : decode cX7_takesShown 8 = .ok (.getfield 23, 3) := by decide +kernel
theorem dX7_takesShown_11 : decode cX7_takesShown 11 = .ok (.iload_n 1, 1) := by decide +kernel
theorem dX7_takesShown_12 : decode cX7_takesShown 12 = .ok (.bipush 97, 2) := by decide +kernel
theorem dX7_takesShown_14 : decode cX7_takesShown 14 = .ok (.isub, 1) := by decide +kernel
theorem dX7_takesShown_15 : decode cX7_takesShown 15 = .ok (.invokevirtual 87, 3) := by decide +kernel
theorem dX7_takesShown_18 : decode cX7_takesShown 18 = .ok (.ifCond .eq 5, 3) := by decide +kernel
theorem dX7_takesShown_21 : decode cX7_takesShown 21 = .ok (.iconst 0, 1) := by decide +kernel
theorem dX7_takesShown_22 : decode cX7_takesShown 22 = .ok (.ireturn, 1) := by decide +kernel
theorem dX7_takesShown_23 : decode cX7_takesShown 23 = .ok (.aload_n 0, 1) := by decide +kernel
theorem dX7_takesShown_24 : decode cX7_takesShown 24 = .ok (.getfield 23, 3) := by decide +kernel
theorem dX7_takesShown_27 : decode cX7_takesShown 27 = .ok (.iload_n 1, 1) := by decide +kernel
theorem dX7_takesShown_28 : decode cX7_takesShown 28 = .ok (.bipush 97, 2) := by decide +kernel
theorem dX7_takesShown_30 : decode cX7_takesShown 30 = .ok (.isub, 1) := by decide +kernel
theorem dX7_takesShown_31 : decode cX7_takesShown 31 = .ok (.invokevirtual 90, 3) := by decide +kernel
theorem dX7_takesShown_34 : decode cX7_takesShown 34 = .ok (.aload_n 0, 1) := by decide +kernel
theorem dX7_takesShown_35 : decode cX7_takesShown 35 = .ok (.bipush 7, 2) := by decide +kernel
theorem dX7_takesShown_37 : decode cX7_takesShown 37 = .ok (.invokevirtual 49, 3) := by decide +kernel
theorem dX7_takesShown_40 : decode cX7_takesShown 40 = .ok (.ireturn, 1) := by decide +kernel
theorem dX7_takesSort_0 : decode cX7_takesSort 0 = .ok (.iload_n 1, 1) := by decide +kernel
theorem dX7_takesSort_1 : decode cX7_takesSort 1 = .ok (.invokestatic 74, 3) := by decide +kernel
theorem dX7_takesSort_4 : decode cX7_takesSort 4 = .ok (.ifCond .ne 5, 3) := by decide +kernel
theorem dX7_takesSort_7 : decode cX7_takesSort 7 = .ok (.iconst 0, 1) := by decide +kernel
theorem dX7_takesSort_8 : decode cX7_takesSort 8 = .ok (.ireturn, 1) := by decide +kernel
theorem dX7_takesSort_9 : decode cX7_takesSort 9 = .ok (.aload_n 0, 1) := by decide +kernel
theorem dX7_takesSort_10 : decode cX7_takesSort 10 = .ok (.getfield 23, 3) := by decide +kernel
theorem dX7_takesSort_13 : decode cX7_takesSort 13 = .ok (.iload_n 1, 1) := by decide +kernel
theorem dX7_takesSort_14 : decode cX7_takesSort 14 = .ok (.bipush 97, 2) := by decide +kernel
theorem dX7_takesSort_16 : decode cX7_takesSort 16 = .ok (.isub, 1) := by decide +kernel
theorem dX7_takesSort_17 : decode cX7_takesSort 17 = .ok (.invokevirtual 93, 3) := by decide +kernel
theorem dX7_takesSort_20 : decode cX7_takesSort 20 = .ok (.aload_n 0, 1) := by decide +kernel
theorem dX7_takesSort_21 : decode cX7_takesSort 21 = .ok (.bipush 9, 2) := by decide +kernel
theorem dX7_takesSort_23 : decode cX7_takesSort 23 = .ok (.invokevirtual 49, 3) := by decide +kernel
theorem dX7_takesSort_26 : decode cX7_takesSort 26 = .ok (.ireturn, 1) := by decide +kernel
theorem dX8_init_0 : decode cX8_init 0 = .ok (.aload_n 0, 1) := by decide +kernel
theorem dX8_init_1 : decode cX8_init 1 = .ok (.invokespecial 3, 3) := by decide +kernel
theorem dX8_init_4 : decode cX8_init 4 = .ok (.aload_n 0, 1) := by decide +kernel
theorem dX8_init_5 : decode cX8_init 5 = .ok (.new 9, 3) := by decide +kernel
theorem dX8_init_8 : decode cX8_init 8 = .ok (.dup, 1) := by decide +kernel
theorem dX8_init_9 : decode cX8_init 9 = .ok (.sipush 256, 3) := by decide +kernel
theorem dX8_init_12 : decode cX8_init 12 = .ok (.invokespecial 11, 3) := by decide +kernel
theorem dX8_init_15 : decode cX8_init 15 = .ok (.putfield 14, 3) := by decide +kernel
theorem dX8_init_18 : decode cX8_init 18 = .ok (.aload_n 0, 1) := by decide +kernel
theorem dX8_init_19 : decode cX8_init 19 = .ok (.iconst 4, 1) := by decide +kernel
theorem dX8_init_20 : decode cX8_init 20 = .ok (.putfield 20, 3) := by decide +kernel
theorem dX8_init_23 : decode cX8_init 23 = .ok (.return_, 1) := by decide +kernel
theorem dX8_holds_0 : decode cX8_holds 0 = .ok (.iload_n 1, 1) := by decide +kernel
theorem dX8_holds_1 : decode cX8_holds 1 = .ok (.invokestatic 24, 3) := by decide +kernel
theorem dX8_holds_4 : decode cX8_holds 4 = .ok (.ifCond .eq 18, 3) := by decide +kernel
theorem dX8_holds_7 : decode cX8_holds 7 = .ok (.aload_n 0, 1) := by decide +kernel
theorem dX8_holds_8 : decode cX8_holds 8 = .ok (.getfield 28, 3) := by decide +kernel
theorem dX8_holds_11 : decode cX8_holds 11 = .ok (.iload_n 1, 1) := by decide +kernel
theorem dX8_holds_12 : decode cX8_holds 12 = .ok (.invokestatic 32, 3) := by decide +kernel
theorem dX8_holds_15 : decode cX8_holds 15 = .ok (.ifCond .eq 7, 3) := by decide +kernel
theorem dX8_holds_18 : decode cX8_holds 18 = .ok (.iconst 1, 1) := by decide +kernel
theorem dX8_holds_19 : decode cX8_holds 19 = .ok (.goto 4, 3) := by decide +kernel
theorem dX8_holds_22 : decode cX8_holds 22 = .ok (.iconst 0, 1) := by decide +kernel
theorem dX8_holds_23 : decode cX8_holds 23 = .ok (.ireturn, 1) := by decide +kernel
theorem dX8_hold_0 : decode cX8_hold 0 = .ok (.aload_n 0, 1) := by decide +kernel
theorem dX8_hold_1 : decode cX8_hold 1 = .ok (.dup, 1) := by decide +kernel
theorem dX8_hold_2 : decode cX8_hold 2 = .ok (.getfield 28, 3) := by decide +kernel
theorem dX8_hold_5 : decode cX8_hold 5 = .ok (.lconst 1, 1) := by decide +kernel
theorem dX8_hold_6 : decode cX8_hold 6 = .ok (.iload_n 1, 1) := by decide +kernel
theorem dX8_hold_7 : decode cX8_hold 7 = .ok (.lshl, 1) := by decide +kernel
theorem dX8_hold_8 : decode cX8_hold 8 = .ok (.lor, 1) := by decide +kernel
theorem dX8_hold_9 : decode cX8_hold 9 = .ok (.putfield 28, 3) := by decide +kernel
theorem dX8_hold_12 : decode cX8_hold 12 = .ok (.return_, 1) := by decide +kernel
theorem dX8_release_0 : decode cX8_release 0 = .ok (.aload_n 0, 1) := by decide +kernel
theorem dX8_release_1 : decode cX8_release 1 = .ok (.dup, 1) := by decide +kernel
theorem dX8_release_2 : decode cX8_release 2 = .ok (.getfield 28, 3) := by decide +kernel
theorem dX8_release_5 : decode cX8_release 5 = .ok (.lconst 1, 1) := by decide +kernel
theorem dX8_release_6 : decode cX8_release 6 = .ok (.iload_n 1, 1) := by decide +kernel
theorem dX8_release_7 : decode cX8_release 7 = .ok (.lshl, 1) := by decide +kernel
theorem dX8_release_8 : decode cX8_release 8 = .ok (.ldc2_w 36, 3) := by decide +kernel
theorem dX8_release_11 : decode cX8_release 11 = .ok (.lxor, 1) := by decide +kernel
theorem dX8_release_12 : decode cX8_release 12 = .ok (.land, 1) := by decide +kernel
theorem dX8_release_13 : decode cX8_release 13 = .ok (.putfield 28, 3) := by decide +kernel
theorem dX8_release_16 : decode cX8_release 16 = .ok (.return_, 1) := by decide +kernel
theorem dX8_taken_0 : decode cX8_taken 0 = .ok (.aload_n 0, 1) := by decide +kernel
theorem dX8_taken_1 : decode cX8_taken 1 = .ok (.getfield 28, 3) := by decide +kernel
theorem dX8_taken_4 : decode cX8_taken 4 = .ok (.lreturn, 1) := by decide +kernel
theorem dX8_rows_0 : decode cX8_rows 0 = .ok (.aload_n 0, 1) := by decide +kernel
theorem dX8_rows_1 : decode cX8_rows 1 = .ok (.getfield 28, 3) := by decide +kernel
theorem dX8_rows_4 : decode cX8_rows 4 = .ok (.invokestatic 38, 3) := by decide +kernel
theorem dX8_rows_7 : decode cX8_rows 7 = .ok (.ireturn, 1) := by decide +kernel
theorem dX8_emptySlot_0 : decode cX8_emptySlot 0 = .ok (.iconst 0, 1) := by decide +kernel
theorem dX8_emptySlot_1 : decode cX8_emptySlot 1 = .ok (.istore_n 1, 1) := by decide +kernel
theorem dX8_emptySlot_2 : decode cX8_emptySlot 2 = .ok (.iload_n 1, 1) := by decide +kernel
theorem dX8_emptySlot_3 : decode cX8_emptySlot 3 = .ok (.bipush 64, 2) := by decide +kernel
theorem dX8_emptySlot_5 : decode cX8_emptySlot 5 = .ok (.if_icmp .ge 22, 3) := by decide +kernel
theorem dX8_emptySlot_8 : decode cX8_emptySlot 8 = .ok (.aload_n 0, 1) := by decide +kernel
theorem dX8_emptySlot_9 : decode cX8_emptySlot 9 = .ok (.getfield 28, 3) := by decide +kernel
theorem dX8_emptySlot_12 : decode cX8_emptySlot 12 = .ok (.iload_n 1, 1) := by decide +kernel
theorem dX8_emptySlot_13 : decode cX8_emptySlot 13 = .ok (.invokestatic 32, 3) := by decide +kernel
theorem dX8_emptySlot_16 : decode cX8_emptySlot 16 = .ok (.ifCond .ne 5, 3) := by decide +kernel
theorem dX8_emptySlot_19 : decode cX8_emptySlot 19 = .ok (.iload_n 1, 1) := by decide +kernel
theorem dX8_emptySlot_20 : decode cX8_emptySlot 20 = .ok (.ireturn, 1) := by decide +kernel
theorem dX8_emptySlot_21 : decode cX8_emptySlot 21 = .ok (.iinc 1 1, 3) := by decide +kernel
theorem dX8_emptySlot_24 : decode cX8_emptySlot 24 = .ok (.goto (-22), 3) := by decide +kernel
theorem dX8_emptySlot_27 : decode cX8_emptySlot 27 = .ok (.iconst (-1), 1) := by decide +kernel
theorem dX8_emptySlot_28 : decode cX8_emptySlot 28 = .ok (.ireturn, 1) := by decide +kernel
theorem dX8_number_0 : decode cX8_number 0 = .ok (.aload_n 0, 1) := by decide +kernel
theorem dX8_number_1 : decode cX8_number 1 = .ok (.getfield 14, 3) := by decide +kernel
theorem dX8_number_4 : decode cX8_number 4 = .ok (.iload_n 1, 1) := by decide +kernel
theorem dX8_number_5 : decode cX8_number 5 = .ok (.iconst 4, 1) := by decide +kernel
theorem dX8_number_6 : decode cX8_number 6 = .ok (.imul, 1) := by decide +kernel
theorem dX8_number_7 : decode cX8_number 7 = .ok (.iload_n 2, 1) := by decide +kernel
theorem dX8_number_8 : decode cX8_number 8 = .ok (.iadd, 1) := by decide +kernel
theorem dX8_number_9 : decode cX8_number 9 = .ok (.invokevirtual 44, 3) := by decide +kernel
theorem dX8_number_12 : decode cX8_number 12 = .ok (.ireturn, 1) := by decide +kernel
theorem dX8_put_0 : decode cX8_put 0 = .ok (.aload_n 0, 1) := by decide +kernel
theorem dX8_put_1 : decode cX8_put 1 = .ok (.getfield 14, 3) := by decide +kernel
theorem dX8_put_4 : decode cX8_put 4 = .ok (.iload_n 1, 1) := by decide +kernel
theorem dX8_put_5 : decode cX8_put 5 = .ok (.iconst 4, 1) := by decide +kernel
theorem dX8_put_6 : decode cX8_put 6 = .ok (.imul, 1) := by decide +kernel
theorem dX8_put_7 : decode cX8_put 7 = .ok (.iload_n 2, 1) := by decide +kernel
theorem dX8_put_8 : decode cX8_put 8 = .ok (.iadd, 1) := by decide +kernel
theorem dX8_put_9 : decode cX8_put 9 = .ok (.iload_n 3, 1) := by decide +kernel
theorem dX8_put_10 : decode cX8_put 10 = .ok (.invokevirtual 48, 3) := by decide +kernel
theorem dX8_put_13 : decode cX8_put 13 = .ok (.return_, 1) := by decide +kernel
theorem dX8_pageWidth_0 : decode cX8_pageWidth 0 = .ok (.aload_n 0, 1) := by decide +kernel
theorem dX8_pageWidth_1 : decode cX8_pageWidth 1 = .ok (.getfield 20, 3) := by decide +kernel
theorem dX8_pageWidth_4 : decode cX8_pageWidth 4 = .ok (.ireturn, 1) := by decide +kernel
theorem dX8_widen_0 : decode cX8_widen 0 = .ok (.aload_n 0, 1) := by decide +kernel
theorem dX8_widen_1 : decode cX8_widen 1 = .ok (.iload_n 1, 1) := by decide +kernel
theorem dX8_widen_2 : decode cX8_widen 2 = .ok (.putfield 20, 3) := by decide +kernel
theorem dX8_widen_5 : decode cX8_widen 5 = .ok (.return_, 1) := by decide +kernel
theorem dX8_fullPages_0 : decode cX8_fullPages 0 = .ok (.aload_n 0, 1) := by decide +kernel
theorem dX8_fullPages_1 : decode cX8_fullPages 1 = .ok (.aload_n 0, 1) := by decide +kernel
theorem dX8_fullPages_2 : decode cX8_fullPages 2 = .ok (.getfield 28, 3) := by decide +kernel
theorem dX8_fullPages_5 : decode cX8_fullPages 5 = .ok (.invokevirtual 52, 3) := by decide +kernel
theorem dX8_fullPages_8 : decode cX8_fullPages 8 = .ok (.ireturn, 1) := by decide +kernel
theorem dX8_pagesOf_0 : decode cX8_pagesOf 0 = .ok (.lconst 1, 1) := by decide +kernel
theorem dX8_pagesOf_1 : decode cX8_pagesOf 1 = .ok (.aload_n 0, 1) := by decide +kernel
theorem dX8_pagesOf_2 : decode cX8_pagesOf 2 = .ok (.getfield 20, 3) := by decide +kernel
theorem dX8_pagesOf_5 : decode cX8_pagesOf 5 = .ok (.lshl, 1) := by decide +kernel
theorem dX8_pagesOf_6 : decode cX8_pagesOf 6 = .ok (.lconst 1, 1) := by decide +kernel
theorem dX8_pagesOf_7 : decode cX8_pagesOf 7 = .ok (.lsub, 1) := by decide +kernel
theorem dX8_pagesOf_8 : decode cX8_pagesOf 8 = .ok (.lstore_n 3, 1) := by decide +kernel
theorem dX8_pagesOf_9 : decode cX8_pagesOf 9 = .ok (.iconst 0, 1) := by decide +kernel
theorem dX8_pagesOf_10 : decode cX8_pagesOf 10 = .ok (.istore 5, 2) := by decide +kernel
theorem dX8_pagesOf_12 : decode cX8_pagesOf 12 = .ok (.iconst 0, 1) := by decide +kernel
theorem dX8_pagesOf_13 : decode cX8_pagesOf 13 = .ok (.istore 6, 2) := by decide +kernel
theorem dX8_pagesOf_15 : decode cX8_pagesOf 15 = .ok (.iload 6, 2) := by decide +kernel
theorem dX8_pagesOf_17 : decode cX8_pagesOf 17 = .ok (.bipush 64, 2) := by decide +kernel
theorem dX8_pagesOf_19 : decode cX8_pagesOf 19 = .ok (.if_icmp .ge 42, 3) := by decide +kernel
theorem dX8_pagesOf_22 : decode cX8_pagesOf 22 = .ok (.iload 6, 2) := by decide +kernel
theorem dX8_pagesOf_24 : decode cX8_pagesOf 24 = .ok (.aload_n 0, 1) := by decide +kernel
theorem dX8_pagesOf_25 : decode cX8_pagesOf 25 = .ok (.getfield 20, 3) := by decide +kernel
theorem dX8_pagesOf_28 : decode cX8_pagesOf 28 = .ok (.imul, 1) := by decide +kernel
theorem dX8_pagesOf_29 : decode cX8_pagesOf 29 = .ok (.istore 7, 2) := by decide +kernel
theorem dX8_pagesOf_31 : decode cX8_pagesOf 31 = .ok (.iload 7, 2) := by decide +kernel
theorem dX8_pagesOf_33 : decode cX8_pagesOf 33 = .ok (.bipush 64, 2) := by decide +kernel
theorem dX8_pagesOf_35 : decode cX8_pagesOf 35 = .ok (.if_icmp .lt 6, 3) := by decide +kernel
theorem dX8_pagesOf_38 : decode cX8_pagesOf 38 = .ok (.goto 23, 3) := by decide +kernel
theorem dX8_pagesOf_41 : decode cX8_pagesOf 41 = .ok (.lload_n 1, 1) := by decide +kernel
theorem dX8_pagesOf_42 : decode cX8_pagesOf 42 = .ok (.iload 7, 2) := by decide +kernel
theorem dX8_pagesOf_44 : decode cX8_pagesOf 44 = .ok (.lushr, 1) := by decide +kernel
theorem dX8_pagesOf_45 : decode cX8_pagesOf 45 = .ok (.lload_n 3, 1) := by decide +kernel
theorem dX8_pagesOf_46 : decode cX8_pagesOf 46 = .ok (.land, 1) := by decide +kernel
theorem dX8_pagesOf_47 : decode cX8_pagesOf 47 = .ok (.lconst 0, 1) := by decide +kernel
theorem dX8_pagesOf_48 : decode cX8_pagesOf 48 = .ok (.lcmp, 1) := by decide +kernel
theorem dX8_pagesOf_49 : decode cX8_pagesOf 49 = .ok (.ifCond .eq 6, 3) := by decide +kernel
theorem dX8_pagesOf_52 : decode cX8_pagesOf 52 = .ok (.iinc 5 1, 3) := by decide +kernel
theorem dX8_pagesOf_55 : decode cX8_pagesOf 55 = .ok (.iinc 6 1, 3) := by decide +kernel
theorem dX8_pagesOf_58 : decode cX8_pagesOf 58 = .ok (.goto (-43), 3) := by decide +kernel
theorem dX8_pagesOf_61 : decode cX8_pagesOf 61 = .ok (.iload 5, 2) := by decide +kernel
theorem dX8_pagesOf_63 : decode cX8_pagesOf 63 = .ok (.ireturn, 1) := by decide +kernel
theorem dX8_rowsWithin_0 : decode cX8_rowsWithin 0 = .ok (.lconst 0, 1) := by decide +kernel
theorem dX8_rowsWithin_1 : decode cX8_rowsWithin 1 = .ok (.lstore 4, 2) := by decide +kernel
theorem dX8_rowsWithin_3 : decode cX8_rowsWithin 3 = .ok (.iconst 0, 1) := by decide +kernel
theorem dX8_rowsWithin_4 : decode cX8_rowsWithin 4 = .ok (.istore 6, 2) := by decide +kernel
theorem dX8_rowsWithin_6 : decode cX8_rowsWithin 6 = .ok (.iload 6, 2) := by decide +kernel
theorem dX8_rowsWithin_8 : decode cX8_rowsWithin 8 = .ok (.bipush 64, 2) := by decide +kernel
theorem dX8_rowsWithin_10 : decode cX8_rowsWithin 10 = .ok (.if_icmp .ge 57, 3) := by decide +kernel
theorem dX8_rowsWithin_13 : decode cX8_rowsWithin 13 = .ok (.aload_n 0, 1) := by decide +kernel
theorem dX8_rowsWithin_14 : decode cX8_rowsWithin 14 = .ok (.getfield 14, 3) := by decide +kernel
theorem dX8_rowsWithin_17 : decode cX8_rowsWithin 17 = .ok (.iload 6, 2) := by decide +kernel
theorem dX8_rowsWithin_19 : decode cX8_rowsWithin 19 = .ok (.iconst 4, 1) := by decide +kernel
theorem dX8_rowsWithin_20 : decode cX8_rowsWithin 20 = .ok (.imul, 1) := by decide +kernel
theorem dX8_rowsWithin_21 : decode cX8_rowsWithin 21 = .ok (.iload_n 1, 1) := by decide +kernel
theorem dX8_rowsWithin_22 : decode cX8_rowsWithin 22 = .ok (.iadd, 1) := by decide +kernel
theorem dX8_rowsWithin_23 : decode cX8_rowsWithin 23 = .ok (.invokevirtual 44, 3) := by decide +kernel
theorem dX8_rowsWithin_26 : decode cX8_rowsWithin 26 = .ok (.istore 7, 2) := by decide +kernel
theorem dX8_rowsWithin_28 : decode cX8_rowsWithin 28 = .ok (.aload_n 0, 1) := by decide +kernel
theorem dX8_rowsWithin_29 : decode cX8_rowsWithin 29 = .ok (.getfield 28, 3) := by decide +kernel
theorem dX8_rowsWithin_32 : decode cX8_rowsWithin 32 = .ok (.iload 6, 2) := by decide +kernel
theorem dX8_rowsWithin_34 : decode cX8_rowsWithin 34 = .ok (.invokestatic 32, 3) := by decide +kernel
theorem dX8_rowsWithin_37 : decode cX8_rowsWithin 37 = .ok (.ifCond .eq 24, 3) := by decide +kernel
theorem dX8_rowsWithin_40 : decode cX8_rowsWithin 40 = .ok (.iload 7, 2) := by decide +kernel
theorem dX8_rowsWithin_42 : decode cX8_rowsWithin 42 = .ok (.iload_n 2, 1) := by decide +kernel
theorem dX8_rowsWithin_43 : decode cX8_rowsWithin 43 = .ok (.if_icmp .lt 18, 3) := by decide +kernel
theorem dX8_rowsWithin_46 : decode cX8_rowsWithin 46 = .ok (.iload 7, 2) := by decide +kernel
theorem dX8_rowsWithin_48 : decode cX8_rowsWithin 48 = .ok (.iload_n 3, 1) := by decide +kernel
theorem dX8_rowsWithin_49 : decode cX8_rowsWithin 49 = .ok (.if_icmp .gt 12, 3) := by decide +kernel
theorem dX8_rowsWithin_52 : decode cX8_rowsWithin 52 = .ok (.lload 4, 2) := by decide +kernel
theorem dX8_rowsWithin_54 : decode cX8_rowsWithin 54 = .ok (.lconst 1, 1) := by decide +kernel
theorem dX8_rowsWithin_55 : decode cX8_rowsWithin 55 = .ok (.iload 6, 2) := by decide +kernel
theorem dX8_rowsWithin_57 : decode cX8_rowsWithin 57 = .ok (.lshl, 1) := by decide +kernel
theorem dX8_rowsWithin_58 : decode cX8_rowsWithin 58 = .ok (.lor, 1) := by decide +kernel
theorem dX8_rowsWithin_59 : decode cX8_rowsWithin 59 = .ok (.lstore 4, 2) := by decide +kernel
theorem dX8_rowsWithin_61 : decode cX8_rowsWithin 61 = .ok (.iinc 6 1, 3) := by decide +kernel
theorem dX8_rowsWithin_64 : decode cX8_rowsWithin 64 = .ok (.goto (-58), 3) := by decide +kernel
theorem dX8_rowsWithin_67 : decode cX8_rowsWithin 67 = .ok (.lload 4, 2) := by decide +kernel
theorem dX8_rowsWithin_69 : decode cX8_rowsWithin 69 = .ok (.lreturn, 1) := by decide +kernel
theorem dX9_init_0 : decode cX9_init 0 = .ok (.aload_n 0, 1) := by decide +kernel
theorem dX9_init_1 : decode cX9_init 1 = .ok (.invokespecial 3, 3) := by decide +kernel
theorem dX9_init_4 : decode cX9_init 4 = .ok (.aload_n 0, 1) := by decide +kernel
theorem dX9_init_5 : decode cX9_init 5 = .ok (.new 9, 3) := by decide +kernel
theorem dX9_init_8 : decode cX9_init 8 = .ok (.dup, 1) := by decide +kernel
theorem dX9_init_9 : decode cX9_init 9 = .ok (.bipush 37, 2) := by decide +kernel
theorem dX9_init_11 : decode cX9_init 11 = .ok (.invokespecial 11, 3) := by decide +kernel
theorem dX9_init_14 : decode cX9_init 14 = .ok (.putfield 14, 3) := by decide +kernel
theorem dX9_init_17 : decode cX9_init 17 = .ok (.aload_n 0, 1) := by decide +kernel
theorem dX9_init_18 : decode cX9_init 18 = .ok (.new 9, 3) := by decide +kernel
theorem dX9_init_21 : decode cX9_init 21 = .ok (.dup, 1) := by decide +kernel
theorem dX9_init_22 : decode cX9_init 22 = .ok (.bipush 37, 2) := by decide +kernel
theorem dX9_init_24 : decode cX9_init 24 = .ok (.invokespecial 11, 3) := by decide +kernel
theorem dX9_init_27 : decode cX9_init 27 = .ok (.putfield 20, 3) := by decide +kernel
theorem dX9_init_30 : decode cX9_init 30 = .ok (.aload_n 0, 1) := by decide +kernel
theorem dX9_init_31 : decode cX9_init 31 = .ok (.new 9, 3) := by decide +kernel
theorem dX9_init_34 : decode cX9_init 34 = .ok (.dup, 1) := by decide +kernel
theorem dX9_init_35 : decode cX9_init 35 = .ok (.bipush 37, 2) := by decide +kernel
theorem dX9_init_37 : decode cX9_init 37 = .ok (.invokespecial 11, 3) := by decide +kernel
theorem dX9_init_40 : decode cX9_init 40 = .ok (.putfield 23, 3) := by decide +kernel
theorem dX9_init_43 : decode cX9_init 43 = .ok (.aload_n 0, 1) := by decide +kernel
theorem dX9_init_44 : decode cX9_init 44 = .ok (.new 9, 3) := by decide +kernel
theorem dX9_init_47 : decode cX9_init 47 = .ok (.dup, 1) := by decide +kernel
theorem dX9_init_48 : decode cX9_init 48 = .ok (.bipush 8, 2) := by decide +kernel
theorem dX9_init_50 : decode cX9_init 50 = .ok (.invokespecial 11, 3) := by decide +kernel
theorem dX9_init_53 : decode cX9_init 53 = .ok (.putfield 26, 3) := by decide +kernel
theorem dX9_init_56 : decode cX9_init 56 = .ok (.aload_n 0, 1) := by decide +kernel
theorem dX9_init_57 : decode cX9_init 57 = .ok (.bipush 8, 2) := by decide +kernel
theorem dX9_init_59 : decode cX9_init 59 = .ok (.newarray .long, 2) := by decide +kernel
theorem dX9_init_61 : decode cX9_init 61 = .ok (.putfield 29, 3) := by decide +kernel
theorem dX9_init_64 : decode cX9_init 64 = .ok (.aload_n 0, 1) := by decide +kernel
theorem dX9_init_65 : decode cX9_init 65 = .ok (.aload_n 1, 1) := by decide +kernel
theorem dX9_init_66 : decode cX9_init 66 = .ok (.putfield 33, 3) := by decide +kernel
theorem dX9_init_69 : decode cX9_init 69 = .ok (.aload_n 0, 1) := by decide +kernel
theorem dX9_init_70 : decode cX9_init 70 = .ok (.aload_n 2, 1) := by decide +kernel
theorem dX9_init_71 : decode cX9_init 71 = .ok (.putfield 37, 3) := by decide +kernel
theorem dX9_init_74 : decode cX9_init 74 = .ok (.return_, 1) := by decide +kernel
theorem dX9_list_0 : decode cX9_list 0 = .ok (.iconst 0, 1) := by decide +kernel
theorem dX9_list_1 : decode cX9_list 1 = .ok (.istore_n 2, 1) := by decide +kernel
theorem dX9_list_2 : decode cX9_list 2 = .ok (.aload_n 1, 1) := by decide +kernel
theorem dX9_list_3 : decode cX9_list 3 = .ok (.invokevirtual 41, 3) := by decide +kernel
theorem dX9_list_6 : decode cX9_list 6 = .ok (.ifCond .eq 17, 3) := by decide +kernel
theorem dX9_list_9 : decode cX9_list 9 = .ok (.aload_n 1, 1) := by decide +kernel
theorem dX9_list_10 : decode cX9_list 10 = .ok (.aload_n 0, 1) := by decide +kernel
theorem dX9_list_11 : decode cX9_list 11 = .ok (.getfield 33, 3) := by decide +kernel
theorem dX9_list_14 : decode cX9_list 14 = .ok (.bipush 15, 2) := by decide +kernel
theorem dX9_list_16 : decode cX9_list 16 = .ok (.invokevirtual 47, 3) := by decide +kernel
theorem dX9_list_19 : decode cX9_list 19 = .ok (.invokestatic 51, 3) := by decide +kernel
theorem dX9_list_22 : decode cX9_list 22 = .ok (.istore_n 2, 1) := by decide +kernel
theorem dX9_list_23 : decode cX9_list 23 = .ok (.aload_n 0, 1) := by decide +kernel
theorem dX9_list_24 : decode cX9_list 24 = .ok (.iconst 0, 1) := by decide +kernel
theorem dX9_list_25 : decode cX9_list 25 = .ok (.putfield 57, 3) := by decide +kernel
theorem dX9_list_28 : decode cX9_list 28 = .ok (.aload_n 0, 1) := by decide +kernel
theorem dX9_list_29 : decode cX9_list 29 = .ok (.iconst 0, 1) := by decide +kernel
theorem dX9_list_30 : decode cX9_list 30 = .ok (.iconst 0, 1) := by decide +kernel
theorem dX9_list_31 : decode cX9_list 31 = .ok (.aload_n 0, 1) := by decide +kernel
theorem dX9_list_32 : decode cX9_list 32 = .ok (.getfield 33, 3) := by decide +kernel
theorem dX9_list_35 : decode cX9_list 35 = .ok (.invokevirtual 61, 3) := by decide +kernel
theorem dX9_list_38 : decode cX9_list 38 = .ok (.iload_n 2, 1) := by decide +kernel
theorem dX9_list_39 : decode cX9_list 39 = .ok (.iadd, 1) := by decide +kernel
theorem dX9_list_40 : decode cX9_list 40 = .ok (.invokevirtual 67, 3) := by decide +kernel
theorem dX9_list_43 : decode cX9_list 43 = .ok (.iconst 0, 1) := by decide +kernel
theorem dX9_list_44 : decode cX9_list 44 = .ok (.istore_n 3, 1) := by decide +kernel
theorem dX9_list_45 : decode cX9_list 45 = .ok (.iload_n 3, 1) := by decide +kernel
theorem dX9_list_46 : decode cX9_list 46 = .ok (.bipush 8, 2) := by decide +kernel
theorem dX9_list_48 : decode cX9_list 48 = .ok (.if_icmp .ge 16, 3) := by decide +kernel
theorem dX9_list_51 : decode cX9_list 51 = .ok (.aload_n 0, 1) := by decide +kernel
theorem dX9_list_52 : decode cX9_list 52 = .ok (.aload_n 1, 1) := by decide +kernel
theorem dX9_list_53 : decode cX9_list 53 = .ok (.iload_n 3, 1) := by decide +kernel
theorem dX9_list_54 : decode cX9_list 54 = .ok (.iload_n 2, 1) := by decide +kernel
theorem dX9_list_55 : decode cX9_list 55 = .ok (.invokevirtual 71, 3) := by decide +kernel
theorem dX9_list_58 : decode cX9_list 58 = .ok (.iinc 3 1, 3) := by decide +kernel
theorem dX9_list_61 : decode cX9_list 61 = .ok (.goto (-16), 3) := by decide +kernel
theorem dX9_list_64 : decode cX9_list 64 = .ok (.iconst 0, 1) := by decide +kernel
theorem dX9_list_65 : decode cX9_list 65 = .ok (.istore_n 3, 1) := by decide +kernel
theorem dX9_list_66 : decode cX9_list 66 = .ok (.iload_n 3, 1) := by decide +kernel
theorem dX9_list_67 : decode cX9_list 67 = .ok (.bipush 8, 2) := by decide +kernel
theorem dX9_list_69 : decode cX9_list 69 = .ok (.if_icmp .ge 35, 3) := by decide +kernel
theorem dX9_list_72 : decode cX9_list 72 = .ok (.iload_n 3, 1) := by decide +kernel
theorem dX9_list_73 : decode cX9_list 73 = .ok (.iconst 1, 1) := by decide +kernel
theorem dX9_list_74 : decode cX9_list 74 = .ok (.iadd, 1) := by decide +kernel
theorem dX9_list_75 : decode cX9_list 75 = .ok (.istore 4, 2) := by decide +kernel
theorem dX9_list_77 : decode cX9_list 77 = .ok (.iload 4, 2) := by decide +kernel
theorem dX9_list_79 : decode cX9_list 79 = .ok (.bipush 8, 2) := by decide +kernel
theorem dX9_list_81 : decode cX9_list 81 = .ok (.if_icmp .ge 17, 3) := by decide +kernel
theorem dX9_list_84 : decode cX9_list 84 = .ok (.aload_n 0, 1) := by decide +kernel
theorem dX9_list_85 : decode cX9_list 85 = .ok (.iload_n 3, 1) := by decide +kernel
theorem dX9_list_86 : decode cX9_list 86 = .ok (.iload 4, 2) := by decide +kernel
theorem dX9_list_88 : decode cX9_list 88 = .ok (.iload_n 2, 1) := by decide +kernel
theorem dX9_list_89 : decode cX9_list 89 = .ok (.invokevirtual 75, 3) := by decide +kernel
theorem dX9_list_92 : decode cX9_list 92 = .ok (.iinc 4 1, 3) := by decide +kernel
theorem dX9_list_95 : decode cX9_list 95 = .ok (.goto (-18), 3) := by decide +kernel
theorem dX9_list_98 : decode cX9_list 98 = .ok (.iinc 3 1, 3) := by decide +kernel
theorem dX9_list_101 : decode cX9_list 101 = .ok (.goto (-35), 3) := by decide +kernel
theorem dX9_list_104 : decode cX9_list 104 = .ok (.return_, 1) := by decide +kernel
theorem dX9_listAlone_0 : decode cX9_listAlone 0 = .ok (.aload_n 0, 1) := by decide +kernel
theorem dX9_listAlone_1 : decode cX9_listAlone 1 = .ok (.getfield 37, 3) := by decide +kernel
theorem dX9_listAlone_4 : decode cX9_listAlone 4 = .ok (.iload_n 2, 1) := by decide +kernel
theorem dX9_listAlone_5 : decode cX9_listAlone 5 = .ok (.invokevirtual 78, 3) := by decide +kernel
theorem dX9_listAlone_8 : decode cX9_listAlone 8 = .ok (.astore 4, 2) := by decide +kernel
theorem dX9_listAlone_10 : decode cX9_listAlone 10 = .ok (.aload 4, 2) := by decide +kernel
theorem dX9_listAlone_12 : decode cX9_listAlone 12 = .ok (.ifnull 16, 3) := by decide +kernel
theorem dX9_listAlone_15 : decode cX9_listAlone 15 = .ok (.iload_n 2, 1) := by decide +kernel
theorem dX9_listAlone_16 : decode cX9_listAlone 16 = .ok (.ifCond .lt 12, 3) := by decide +kernel
theorem dX9_listAlone_19 : decode cX9_listAlone 19 = .ok (.iload_n 2, 1) := by decide +kernel
theorem dX9_listAlone_20 : decode cX9_listAlone 20 = .ok (.aload_n 0, 1) := by decide +kernel
theorem dX9_listAlone_21 : decode cX9_listAlone 21 = .ok (.getfield 29, 3) := by decide +kernel
theorem dX9_listAlone_24 : decode cX9_listAlone 24 = .ok (.arraylength, 1) := by decide +kernel
theorem dX9_listAlone_25 : decode cX9_listAlone 25 = .ok (.if_icmp .lt 4, 3) := by decide +kernel
theorem dX9_listAlone_28 : decode cX9_listAlone 28 = .ok (.return_, 1) := by decide +kernel
theorem dX9_listAlone_29 : decode cX9_listAlone 29 = .ok (.aload_n 0, 1) := by decide +kernel
theorem dX9_listAlone_30 : decode cX9_listAlone 30 = .ok (.getfield 29, 3) := by decide +kernel
theorem dX9_listAlone_33 : decode cX9_listAlone 33 = .ok (.iload_n 2, 1) := by decide +kernel
theorem dX9_listAlone_34 : decode cX9_listAlone 34 = .ok (.aload_n 1, 1) := by decide +kernel
theorem dX9_listAlone_35 : decode cX9_listAlone 35 = .ok (.aload_n 0, 1) := by decide +kernel
theorem dX9_listAlone_36 : decode cX9_listAlone 36 = .ok (.getfield 33, 3) := by decide +kernel
theorem dX9_listAlone_39 : decode cX9_listAlone 39 = .ok (.aload 4, 2) := by decide +kernel
theorem dX9_listAlone_41 : decode cX9_listAlone 41 = .ok (.invokevirtual 84, 3) := by decide +kernel
theorem dX9_listAlone_44 : decode cX9_listAlone 44 = .ok (.invokevirtual 47, 3) := by decide +kernel
theorem dX9_listAlone_47 : decode cX9_listAlone 47 = .ok (.lastore, 1) := by decide +kernel
theorem dX9_listAlone_48 : decode cX9_listAlone 48 = .ok (.aload_n 1, 1) := by decide +kernel
theorem dX9_listAlone_49 : decode cX9_listAlone 49 = .ok (.aload_n 0, 1) := by decide +kernel
theorem dX9_listAlone_50 : decode cX9_listAlone 50 = .ok (.getfield 33, 3) := by decide +kernel
theorem dX9_listAlone_53 : decode cX9_listAlone 53 = .ok (.aload 4, 2) := by decide +kernel
theorem dX9_listAlone_55 : decode cX9_listAlone 55 = .ok (.aload_n 1, 1) := by decide +kernel
theorem dX9_listAlone_56 : decode cX9_listAlone 56 = .ok (.invokevirtual 89, 3) := by decide +kernel
theorem dX9_listAlone_59 : decode cX9_listAlone 59 = .ok (.invokevirtual 47, 3) := by decide +kernel
theorem dX9_listAlone_62 : decode cX9_listAlone 62 = .ok (.lstore 5, 2) := by decide +kernel
theorem dX9_listAlone_64 : decode cX9_listAlone 64 = .ok (.aload 4, 2) := by decide +kernel
theorem dX9_listAlone_66 : decode cX9_listAlone 66 = .ok (.invokevirtual 93, 3) := by decide +kernel
theorem dX9_listAlone_69 : decode cX9_listAlone 69 = .ok (.aload 4, 2) := by decide +kernel
theorem dX9_listAlone_71 : decode cX9_listAlone 71 = .ok (.lload 5, 2) := by decide +kernel
theorem dX9_listAlone_73 : decode cX9_listAlone 73 = .ok (.invokevirtual 96, 3) := by decide +kernel
theorem dX9_listAlone_76 : decode cX9_listAlone 76 = .ok (.iadd, 1) := by decide +kernel
theorem dX9_listAlone_77 : decode cX9_listAlone 77 = .ok (.istore 7, 2) := by decide +kernel
theorem dX9_listAlone_79 : decode cX9_listAlone 79 = .ok (.aload_n 0, 1) := by decide +kernel
theorem dX9_listAlone_80 : decode cX9_listAlone 80 = .ok (.getfield 26, 3) := by decide +kernel
theorem dX9_listAlone_83 : decode cX9_listAlone 83 = .ok (.iload_n 2, 1) := by decide +kernel
theorem dX9_listAlone_84 : decode cX9_listAlone 84 = .ok (.iload 7, 2) := by decide +kernel
theorem dX9_listAlone_86 : decode cX9_listAlone 86 = .ok (.invokevirtual 99, 3) := by decide +kernel
theorem dX9_listAlone_89 : decode cX9_listAlone 89 = .ok (.aload 4, 2) := by decide +kernel
theorem dX9_listAlone_91 : decode cX9_listAlone 91 = .ok (.aload_n 1, 1) := by decide +kernel
theorem dX9_listAlone_92 : decode cX9_listAlone 92 = .ok (.invokevirtual 103, 3) := by decide +kernel
theorem dX9_listAlone_95 : decode cX9_listAlone 95 = .ok (.ifCond .ne 21, 3) := by decide +kernel
theorem dX9_listAlone_98 : decode cX9_listAlone 98 = .ok (.iload 7, 2) := by decide +kernel
theorem dX9_listAlone_100 : decode cX9_listAlone 100 = .ok (.aload_n 0, 1) := by decide +kernel
theorem dX9_listAlone_101 : decode cX9_listAlone 101 = .ok (.getfield 33, 3) := by decide +kernel
theorem dX9_listAlone_104 : decode cX9_listAlone 104 = .ok (.aload_n 0, 1) := by decide +kernel
theorem dX9_listAlone_105 : decode cX9_listAlone 105 = .ok (.getfield 29, 3) := by decide +kernel
theorem dX9_listAlone_108 : decode cX9_listAlone 108 = .ok (.iload_n 2, 1) := by decide +kernel
theorem dX9_listAlone_109 : decode cX9_listAlone 109 = .ok (.laload, 1) := by decide +kernel
theorem dX9_listAlone_110 : decode cX9_listAlone 110 = .ok (.invokevirtual 107, 3) := by decide +kernel
theorem dX9_listAlone_113 : decode cX9_listAlone 113 = .ok (.iadd, 1) := by decide +kernel
theorem dX9_listAlone_114 : decode cX9_listAlone 114 = .ok (.istore 7, 2) := by decide +kernel
theorem dX9_listAlone_116 : decode cX9_listAlone 116 = .ok (.aload_n 0, 1) := by decide +kernel
theorem dX9_listAlone_117 : decode cX9_listAlone 117 = .ok (.iconst 1, 1) := by decide +kernel
theorem dX9_listAlone_118 : decode cX9_listAlone 118 = .ok (.iload_n 2, 1) := by decide +kernel
theorem dX9_listAlone_119 : decode cX9_listAlone 119 = .ok (.iadd, 1) := by decide +kernel
theorem dX9_listAlone_120 : decode cX9_listAlone 120 = .ok (.iconst 0, 1) := by decide +kernel
theorem dX9_listAlone_121 : decode cX9_listAlone 121 = .ok (.iload_n 2, 1) := by decide +kernel
theorem dX9_listAlone_122 : decode cX9_listAlone 122 = .ok (.invokestatic 110, 3) := by decide +kernel
theorem dX9_listAlone_125 : decode cX9_listAlone 125 = .ok (.iload 7, 2) := by decide +kernel
theorem dX9_listAlone_127 : decode cX9_listAlone 127 = .ok (.aload 4, 2) := by decide +kernel
theorem dX9_listAlone_129 : decode cX9_listAlone 129 = .ok (.aload_n 1, 1) := by decide +kernel
theorem dX9_listAlone_130 : decode cX9_listAlone 130 = .ok (.invokevirtual 114, 3) := by decide +kernel
theorem dX9_listAlone_133 : decode cX9_listAlone 133 = .ok (.ifCond .eq 7, 3) := by decide +kernel
theorem dX9_listAlone_136 : decode cX9_listAlone 136 = .ok (.iconst 0, 1) := by decide +kernel
theorem dX9_listAlone_137 : decode cX9_listAlone 137 = .ok (.goto 4, 3) := by decide +kernel
theorem dX9_listAlone_140 : decode cX9_listAlone 140 = .ok (.iload_n 3, 1) := by decide +kernel
theorem dX9_listAlone_141 : decode cX9_listAlone 141 = .ok (.iadd, 1) := by decide +kernel
theorem dX9_listAlone_142 : decode cX9_listAlone 142 = .ok (.invokevirtual 67, 3) := by decide +kernel
theorem dX9_listAlone_145 : decode cX9_listAlone 145 = .ok (.return_, 1) := by decide +kernel
theorem dX9_listBoth_0 : decode cX9_listBoth 0 = .ok (.aload_n 0, 1) := by decide +kernel
theorem dX9_listBoth_1 : decode cX9_listBoth 1 = .ok (.getfield 37, 3) := by decide +kernel
theorem dX9_listBoth_4 : decode cX9_listBoth 4 = .ok (.iload_n 1, 1) := by decide +kernel
theorem dX9_listBoth_5 : decode cX9_listBoth 5 = .ok (.invokevirtual 78, 3) := by decide +kernel
theorem dX9_listBoth_8 : decode cX9_listBoth 8 = .ok (.ifnull 14, 3) := by decide +kernel
theorem dX9_listBoth_11 : decode cX9_listBoth 11 = .ok (.aload_n 0, 1) := by decide +kernel
theorem dX9_listBoth_12 : decode cX9_listBoth 12 = .ok (.getfield 37, 3) := by decide +kernel
theorem dX9_listBoth_15 : decode cX9_listBoth 15 = .ok (.iload_n 2, 1) := by decide +kernel
theorem dX9_listBoth_16 : decode cX9_listBoth 16 = .ok (.invokevirtual 78, 3) := by decide +kernel
theorem dX9_listBoth_19 : decode cX9_listBoth 19 = .ok (.ifnonnull 4, 3) := by decide +kernel
theorem dX9_listBoth_22 : decode cX9_listBoth 22 = .ok (.return_, 1) := by decide +kernel
theorem dX9_listBoth_23 : decode cX9_listBoth 23 = .ok (.aload_n 0, 1) := by decide +kernel
theorem dX9_listBoth_24 : decode cX9_listBoth 24 = .ok (.getfield 26, 3) := by decide +kernel
theorem dX9_listBoth_27 : decode cX9_listBoth 27 = .ok (.iload_n 1, 1) := by decide +kernel
theorem dX9_listBoth_28 : decode cX9_listBoth 28 = .ok (.invokevirtual 117, 3) := by decide +kernel
theorem dX9_listBoth_31 : decode cX9_listBoth 31 = .ok (.aload_n 0, 1) := by decide +kernel
theorem dX9_listBoth_32 : decode cX9_listBoth 32 = .ok (.getfield 26, 3) := by decide +kernel
theorem dX9_listBoth_35 : decode cX9_listBoth 35 = .ok (.iload_n 2, 1) := by decide +kernel
theorem dX9_listBoth_36 : decode cX9_listBoth 36 = .ok (.invokevirtual 117, 3) := by decide +kernel
theorem dX9_listBoth_39 : decode cX9_listBoth 39 = .ok (.iadd, 1) := by decide +kernel
theorem dX9_listBoth_40 : decode cX9_listBoth 40 = .ok (.aload_n 0, 1) := by decide +kernel
theorem dX9_listBoth_41 : decode cX9_listBoth 41 = .ok (.getfield 33, 3) := by decide +kernel
theorem dX9_listBoth_44 : decode cX9_listBoth 44 = .ok (.aload_n 0, 1) := by decide +kernel
theorem dX9_listBoth_45 : decode cX9_listBoth 45 = .ok (.iload_n 1, 1) := by decide +kernel
theorem dX9_listBoth_46 : decode cX9_listBoth 46 = .ok (.invokevirtual 121, 3) := by decide +kernel
theorem dX9_listBoth_49 : decode cX9_listBoth 49 = .ok (.aload_n 0, 1) := by decide +kernel
theorem dX9_listBoth_50 : decode cX9_listBoth 50 = .ok (.iload_n 2, 1) := by decide +kernel
theorem dX9_listBoth_51 : decode cX9_listBoth 51 = .ok (.invokevirtual 121, 3) := by decide +kernel
theorem dX9_listBoth_54 : decode cX9_listBoth 54 = .ok (.land, 1) := by decide +kernel
theorem dX9_listBoth_55 : decode cX9_listBoth 55 = .ok (.invokevirtual 107, 3) := by decide +kernel
theorem dX9_listBoth_58 : decode cX9_listBoth 58 = .ok (.iadd, 1) := by decide +kernel
theorem dX9_listBoth_59 : decode cX9_listBoth 59 = .ok (.istore 4, 2) := by decide +kernel
theorem dX9_listBoth_61 : decode cX9_listBoth 61 = .ok (.aload_n 0, 1) := by decide +kernel
theorem dX9_listBoth_62 : decode cX9_listBoth 62 = .ok (.bipush 100, 2) := by decide +kernel
theorem dX9_listBoth_64 : decode cX9_listBoth 64 = .ok (.bipush 10, 2) := by decide +kernel
theorem dX9_listBoth_66 : decode cX9_listBoth 66 = .ok (.iload_n 1, 1) := by decide +kernel
theorem dX9_listBoth_67 : decode cX9_listBoth 67 = .ok (.imul, 1) := by decide +kernel
theorem dX9_listBoth_68 : decode cX9_listBoth 68 = .ok (.iadd, 1) := by decide +kernel
theorem dX9_listBoth_69 : decode cX9_listBoth 69 = .ok (.iload_n 2, 1) := by decide +kernel
theorem dX9_listBoth_70 : decode cX9_listBoth 70 = .ok (.iadd, 1) := by decide +kernel
theorem dX9_listBoth_71 : decode cX9_listBoth 71 = .ok (.iconst 0, 1) := by decide +kernel
theorem dX9_listBoth_72 : decode cX9_listBoth 72 = .ok (.iload_n 1, 1) := by decide +kernel
theorem dX9_listBoth_73 : decode cX9_listBoth 73 = .ok (.invokestatic 110, 3) := by decide +kernel
theorem dX9_listBoth_76 : decode cX9_listBoth 76 = .ok (.iload_n 2, 1) := by decide +kernel
theorem dX9_listBoth_77 : decode cX9_listBoth 77 = .ok (.invokestatic 110, 3) := by decide +kernel
theorem dX9_listBoth_80 : decode cX9_listBoth 80 = .ok (.iload 4, 2) := by decide +kernel
theorem dX9_listBoth_82 : decode cX9_listBoth 82 = .ok (.iload_n 3, 1) := by decide +kernel
theorem dX9_listBoth_83 : decode cX9_listBoth 83 = .ok (.iadd, 1) := by decide +kernel
theorem dX9_listBoth_84 : decode cX9_listBoth 84 = .ok (.invokevirtual 67, 3) := by decide +kernel
theorem dX9_listBoth_87 : decode cX9_listBoth 87 = .ok (.return_, 1) := by decide +kernel
theorem dX9_leftBy_0 : decode cX9_leftBy 0 = .ok (.iload_n 1, 1) := by decide +kernel
theorem dX9_leftBy_1 : decode cX9_leftBy 1 = .ok (.ifCond .lt 21, 3) := by decide +kernel
theorem dX9_leftBy_4 : decode cX9_leftBy 4 = .ok (.iload_n 1, 1) := by decide +kernel
theorem dX9_leftBy_5 : decode cX9_leftBy 5 = .ok (.aload_n 0, 1) := by decide +kernel
theorem dX9_leftBy_6 : decode cX9_leftBy 6 = .ok (.getfield 29, 3) := by decide +kernel
theorem dX9_leftBy_9 : decode cX9_leftBy 9 = .ok (.arraylength, 1) := by decide +kernel
theorem dX9_leftBy_10 : decode cX9_leftBy 10 = .ok (.if_icmp .ge 12, 3) := by decide +kernel
theorem dX9_leftBy_13 : decode cX9_leftBy 13 = .ok (.aload_n 0, 1) := by decide +kernel
theorem dX9_leftBy_14 : decode cX9_leftBy 14 = .ok (.getfield 29, 3) := by decide +kernel
theorem dX9_leftBy_17 : decode cX9_leftBy 17 = .ok (.iload_n 1, 1) := by decide +kernel
theorem dX9_leftBy_18 : decode cX9_leftBy 18 = .ok (.laload, 1) := by decide +kernel
theorem dX9_leftBy_19 : decode cX9_leftBy 19 = .ok (.goto 4, 3) := by decide +kernel
theorem dX9_leftBy_22 : decode cX9_leftBy 22 = .ok (.lconst 0, 1) := by decide +kernel
theorem dX9_leftBy_23 : decode cX9_leftBy 23 = .ok (.lreturn, 1) := by decide +kernel
theorem dX9_add_0 : decode cX9_add 0 = .ok (.aload_n 0, 1) := by decide +kernel
theorem dX9_add_1 : decode cX9_add 1 = .ok (.getfield 14, 3) := by decide +kernel
theorem dX9_add_4 : decode cX9_add 4 = .ok (.aload_n 0, 1) := by decide +kernel
theorem dX9_add_5 : decode cX9_add 5 = .ok (.getfield 57, 3) := by decide +kernel
theorem dX9_add_8 : decode cX9_add 8 = .ok (.iload_n 1, 1) := by decide +kernel
theorem dX9_add_9 : decode cX9_add 9 = .ok (.invokevirtual 99, 3) := by decide +kernel
theorem dX9_add_12 : decode cX9_add 12 = .ok (.aload_n 0, 1) := by decide +kernel
theorem dX9_add_13 : decode cX9_add 13 = .ok (.getfield 20, 3) := by decide +kernel
theorem dX9_add_16 : decode cX9_add 16 = .ok (.aload_n 0, 1) := by decide +kernel
theorem dX9_add_17 : decode cX9_add 17 = .ok (.getfield 57, 3) := by decide +kernel
theorem dX9_add_20 : decode cX9_add 20 = .ok (.iload_n 2, 1) := by decide +kernel
theorem dX9_add_21 : decode cX9_add 21 = .ok (.invokevirtual 99, 3) := by decide +kernel
theorem dX9_add_24 : decode cX9_add 24 = .ok (.aload_n 0, 1) := by decide +kernel
theorem dX9_add_25 : decode cX9_add 25 = .ok (.getfield 23, 3) := by decide +kernel
theorem dX9_add_28 : decode cX9_add 28 = .ok (.aload_n 0, 1) := by decide +kernel
theorem dX9_add_29 : decode cX9_add 29 = .ok (.getfield 57, 3) := by decide +kernel
theorem dX9_add_32 : decode cX9_add 32 = .ok (.iload_n 3, 1) := by decide +kernel
theorem dX9_add_33 : decode cX9_add 33 = .ok (.invokevirtual 99, 3) := by decide +kernel
theorem dX9_add_36 : decode cX9_add 36 = .ok (.aload_n 0, 1) := by decide +kernel
theorem dX9_add_37 : decode cX9_add 37 = .ok (.dup, 1) := by decide +kernel
theorem dX9_add_38 : decode cX9_add 38 = .ok (.getfield 57, 3) := by decide +kernel
theorem dX9_add_41 : decode cX9_add 41 = .ok (.iconst 1, 1) := by decide +kernel
theorem dX9_add_42 : decode cX9_add 42 = .ok (.iadd, 1) := by decide +kernel
theorem dX9_add_43 : decode cX9_add 43 = .ok (.putfield 57, 3) := by decide +kernel
theorem dX9_add_46 : decode cX9_add 46 = .ok (.return_, 1) := by decide +kernel
theorem dX9_placeOf_0 : decode cX9_placeOf 0 = .ok (.aload_n 0, 1) := by decide +kernel
theorem dX9_placeOf_1 : decode cX9_placeOf 1 = .ok (.getfield 14, 3) := by decide +kernel
theorem dX9_placeOf_4 : decode cX9_placeOf 4 = .ok (.iload_n 1, 1) := by decide +kernel
theorem dX9_placeOf_5 : decode cX9_placeOf 5 = .ok (.aload_n 0, 1) := by decide +kernel
theorem dX9_placeOf_6 : decode cX9_placeOf 6 = .ok (.getfield 57, 3) := by decide +kernel
theorem dX9_placeOf_9 : decode cX9_placeOf 9 = .ok (.invokevirtual 125, 3) := by decide +kernel
theorem dX9_placeOf_12 : decode cX9_placeOf 12 = .ok (.ireturn, 1) := by decide +kernel
theorem dX9_numberAt_0 : decode cX9_numberAt 0 = .ok (.aload_n 0, 1) := by decide +kernel
theorem dX9_numberAt_1 : decode cX9_numberAt 1 = .ok (.getfield 14, 3) := by decide +kernel
theorem dX9_numberAt_4 : decode cX9_numberAt 4 = .ok (.iload_n 1, 1) := by decide +kernel
theorem dX9_numberAt_5 : decode cX9_numberAt 5 = .ok (.invokevirtual 117, 3) := by decide +kernel
theorem dX9_numberAt_8 : decode cX9_numberAt 8 = .ok (.ireturn, 1) := by decide +kernel
theorem dX9_costAt_0 : decode cX9_costAt 0 = .ok (.aload_n 0, 1) := by decide +kernel
theorem dX9_costAt_1 : decode cX9_costAt 1 = .ok (.getfield 23, 3) := by decide +kernel
theorem dX9_costAt_4 : decode cX9_costAt 4 = .ok (.iload_n 1, 1) := by decide +kernel
theorem dX9_costAt_5 : decode cX9_costAt 5 = .ok (.invokevirtual 117, 3) := by decide +kernel
theorem dX9_costAt_8 : decode cX9_costAt 8 = .ok (.ireturn, 1) := by decide +kernel
theorem dX9_bestPlace_0 : decode cX9_bestPlace 0 = .ok (.iconst 0, 1) := by decide +kernel
theorem dX9_bestPlace_1 : decode cX9_bestPlace 1 = .ok (.istore_n 2, 1) := by decide +kernel
theorem dX9_bestPlace_2 : decode cX9_bestPlace 2 = .ok (.iconst 1, 1) := by decide +kernel
theorem dX9_bestPlace_3 : decode cX9_bestPlace 3 = .ok (.istore_n 3, 1) := by decide +kernel
theorem dX9_bestPlace_4 : decode cX9_bestPlace 4 = .ok (.iload_n 3, 1) := by decide +kernel
theorem dX9_bestPlace_5 : decode cX9_bestPlace 5 = .ok (.aload_n 0, 1) := by decide +kernel
theorem dX9_bestPlace_6 : decode cX9_bestPlace 6 = .ok (.getfield 57, 3) := by decide +kernel
theorem dX9_bestPlace_9 : decode cX9_bestPlace 9 = .ok (.if_icmp .ge 45, 3) := by decide +kernel
theorem dX9_bestPlace_12 : decode cX9_bestPlace 12 = .ok (.aload_n 0, 1) := by decide +kernel
theorem dX9_bestPlace_13 : decode cX9_bestPlace 13 = .ok (.getfield 20, 3) := by decide +kernel
theorem dX9_bestPlace_16 : decode cX9_bestPlace 16 = .ok (.iload_n 3, 1) := by decide +kernel
theorem dX9_bestPlace_17 : decode cX9_bestPlace 17 = .ok (.invokevirtual 117, 3) := by decide +kernel
theorem dX9_bestPlace_20 : decode cX9_bestPlace 20 = .ok (.iload_n 1, 1) := by decide +kernel
theorem dX9_bestPlace_21 : decode cX9_bestPlace 21 = .ok (.iconst (-1), 1) := by decide +kernel
theorem dX9_bestPlace_22 : decode cX9_bestPlace 22 = .ok (.ixor, 1) := by decide +kernel
theorem dX9_bestPlace_23 : decode cX9_bestPlace 23 = .ok (.iand, 1) := by decide +kernel
theorem dX9_bestPlace_24 : decode cX9_bestPlace 24 = .ok (.ifCond .ne 24, 3) := by decide +kernel
theorem dX9_bestPlace_27 : decode cX9_bestPlace 27 = .ok (.aload_n 0, 1) := by decide +kernel
theorem dX9_bestPlace_28 : decode cX9_bestPlace 28 = .ok (.getfield 23, 3) := by decide +kernel
theorem dX9_bestPlace_31 : decode cX9_bestPlace 31 = .ok (.iload_n 3, 1) := by decide +kernel
theorem dX9_bestPlace_32 : decode cX9_bestPlace 32 = .ok (.invokevirtual 117, 3) := by decide +kernel
theorem dX9_bestPlace_35 : decode cX9_bestPlace 35 = .ok (.aload_n 0, 1) := by decide +kernel
theorem dX9_bestPlace_36 : decode cX9_bestPlace 36 = .ok (.getfield 23, 3) := by decide +kernel
theorem dX9_bestPlace_39 : decode cX9_bestPlace 39 = .ok (.iload_n 2, 1) := by decide +kernel
theorem dX9_bestPlace_40 : decode cX9_bestPlace 40 = .ok (.invokevirtual 117, 3) := by decide +kernel
theorem dX9_bestPlace_43 : decode cX9_bestPlace 43 = .ok (.if_icmp .ge 5, 3) := by decide +kernel
theorem dX9_bestPlace_46 : decode cX9_bestPlace 46 = .ok (.iload_n 3, 1) := by decide +kernel
theorem dX9_bestPlace_47 : decode cX9_bestPlace 47 = .ok (.istore_n 2, 1) := by decide +kernel
theorem dX9_bestPlace_48 : decode cX9_bestPlace 48 = .ok (.iinc 3 1, 3) := by decide +kernel
theorem dX9_bestPlace_51 : decode cX9_bestPlace 51 = .ok (.goto (-47), 3) := by decide +kernel
theorem dX9_bestPlace_54 : decode cX9_bestPlace 54 = .ok (.iload_n 2, 1) := by decide +kernel
theorem dX9_bestPlace_55 : decode cX9_bestPlace 55 = .ok (.ireturn, 1) := by decide +kernel
theorem dX9_fewestOfAll_0 : decode cX9_fewestOfAll 0 = .ok (.iconst 0, 1) := by decide +kernel
theorem dX9_fewestOfAll_1 : decode cX9_fewestOfAll 1 = .ok (.istore_n 2, 1) := by decide +kernel
theorem dX9_fewestOfAll_2 : decode cX9_fewestOfAll 2 = .ok (.iload_n 2, 1) := by decide +kernel
theorem dX9_fewestOfAll_3 : decode cX9_fewestOfAll 3 = .ok (.sipush 256, 3) := by decide +kernel
theorem dX9_fewestOfAll_6 : decode cX9_fewestOfAll 6 = .ok (.if_icmp .ge 22, 3) := by decide +kernel
theorem dX9_fewestOfAll_9 : decode cX9_fewestOfAll 9 = .ok (.aload_n 1, 1) := by decide +kernel
theorem dX9_fewestOfAll_10 : decode cX9_fewestOfAll 10 = .ok (.iload_n 2, 1) := by decide +kernel
theorem dX9_fewestOfAll_11 : decode cX9_fewestOfAll 11 = .ok (.aload_n 0, 1) := by decide +kernel
theorem dX9_fewestOfAll_12 : decode cX9_fewestOfAll 12 = .ok (.getfield 23, 3) := by decide +kernel
theorem dX9_fewestOfAll_15 : decode cX9_fewestOfAll 15 = .ok (.iconst 0, 1) := by decide +kernel
theorem dX9_fewestOfAll_16 : decode cX9_fewestOfAll 16 = .ok (.invokevirtual 117, 3) := by decide +kernel
theorem dX9_fewestOfAll_19 : decode cX9_fewestOfAll 19 = .ok (.invokevirtual 99, 3) := by decide +kernel
theorem dX9_fewestOfAll_22 : decode cX9_fewestOfAll 22 = .ok (.iinc 2 1, 3) := by decide +kernel
theorem dX9_fewestOfAll_25 : decode cX9_fewestOfAll 25 = .ok (.goto (-23), 3) := by decide +kernel
theorem dX9_fewestOfAll_28 : decode cX9_fewestOfAll 28 = .ok (.iconst 1, 1) := by decide +kernel
theorem dX9_fewestOfAll_29 : decode cX9_fewestOfAll 29 = .ok (.istore_n 2, 1) := by decide +kernel
theorem dX9_fewestOfAll_30 : decode cX9_fewestOfAll 30 = .ok (.iload_n 2, 1) := by decide +kernel
theorem dX9_fewestOfAll_31 : decode cX9_fewestOfAll 31 = .ok (.aload_n 0, 1) := by decide +kernel
theorem dX9_fewestOfAll_32 : decode cX9_fewestOfAll 32 = .ok (.getfield 57, 3) := by decide +kernel
theorem dX9_fewestOfAll_35 : decode cX9_fewestOfAll 35 = .ok (.if_icmp .ge 40, 3) := by decide +kernel
theorem dX9_fewestOfAll_38 : decode cX9_fewestOfAll 38 = .ok (.aload_n 1, 1) := by decide +kernel
theorem dX9_fewestOfAll_39 : decode cX9_fewestOfAll 39 = .ok (.aload_n 0, 1) := by decide +kernel
theorem dX9_fewestOfAll_40 : decode cX9_fewestOfAll 40 = .ok (.getfield 20, 3) := by decide +kernel
theorem dX9_fewestOfAll_43 : decode cX9_fewestOfAll 43 = .ok (.iload_n 2, 1) := by decide +kernel
theorem dX9_fewestOfAll_44 : decode cX9_fewestOfAll 44 = .ok (.invokevirtual 117, 3) := by decide +kernel
theorem dX9_fewestOfAll_47 : decode cX9_fewestOfAll 47 = .ok (.aload_n 0, 1) := by decide +kernel
theorem dX9_fewestOfAll_48 : decode cX9_fewestOfAll 48 = .ok (.getfield 23, 3) := by decide +kernel
theorem dX9_fewestOfAll_51 : decode cX9_fewestOfAll 51 = .ok (.iconst 0, 1) := by decide +kernel
theorem dX9_fewestOfAll_52 : decode cX9_fewestOfAll 52 = .ok (.invokevirtual 117, 3) := by decide +kernel
theorem dX9_fewestOfAll_55 : decode cX9_fewestOfAll 55 = .ok (.aload_n 0, 1) := by decide +kernel
theorem dX9_fewestOfAll_56 : decode cX9_fewestOfAll 56 = .ok (.getfield 23, 3) := by decide +kernel
theorem dX9_fewestOfAll_59 : decode cX9_fewestOfAll 59 = .ok (.iload_n 2, 1) := by decide +kernel
theorem dX9_fewestOfAll_60 : decode cX9_fewestOfAll 60 = .ok (.invokevirtual 117, 3) := by decide +kernel
theorem dX9_fewestOfAll_63 : decode cX9_fewestOfAll 63 = .ok (.invokestatic 128, 3) := by decide +kernel
theorem dX9_fewestOfAll_66 : decode cX9_fewestOfAll 66 = .ok (.invokevirtual 99, 3) := by decide +kernel
theorem dX9_fewestOfAll_69 : decode cX9_fewestOfAll 69 = .ok (.iinc 2 1, 3) := by decide +kernel
theorem dX9_fewestOfAll_72 : decode cX9_fewestOfAll 72 = .ok (.goto (-42), 3) := by decide +kernel
theorem dX9_fewestOfAll_75 : decode cX9_fewestOfAll 75 = .ok (.iconst 0, 1) := by decide +kernel
theorem dX9_fewestOfAll_76 : decode cX9_fewestOfAll 76 = .ok (.istore_n 2, 1) := by decide +kernel
theorem dX9_fewestOfAll_77 : decode cX9_fewestOfAll 77 = .ok (.iload_n 2, 1) := by decide +kernel
theorem dX9_fewestOfAll_78 : decode cX9_fewestOfAll 78 = .ok (.bipush 8, 2) := by decide +kernel
theorem dX9_fewestOfAll_80 : decode cX9_fewestOfAll 80 = .ok (.if_icmp .ge 46, 3) := by decide +kernel
theorem dX9_fewestOfAll_83 : decode cX9_fewestOfAll 83 = .ok (.iconst 0, 1) := by decide +kernel
theorem dX9_fewestOfAll_84 : decode cX9_fewestOfAll 84 = .ok (.istore_n 3, 1) := by decide +kernel
theorem dX9_fewestOfAll_85 : decode cX9_fewestOfAll 85 = .ok (.iload_n 3, 1) := by decide +kernel
theorem dX9_fewestOfAll_86 : decode cX9_fewestOfAll 86 = .ok (.sipush 256, 3) := by decide +kernel
theorem dX9_fewestOfAll_89 : decode cX9_fewestOfAll 89 = .ok (.if_icmp .ge 31, 3) := by decide +kernel
theorem dX9_fewestOfAll_92 : decode cX9_fewestOfAll 92 = .ok (.aload_n 1, 1) := by decide +kernel
theorem dX9_fewestOfAll_93 : decode cX9_fewestOfAll 93 = .ok (.iload_n 3, 1) := by decide +kernel
theorem dX9_fewestOfAll_94 : decode cX9_fewestOfAll 94 = .ok (.aload_n 1, 1) := by decide +kernel
theorem dX9_fewestOfAll_95 : decode cX9_fewestOfAll 95 = .ok (.iload_n 3, 1) := by decide +kernel
theorem dX9_fewestOfAll_96 : decode cX9_fewestOfAll 96 = .ok (.invokevirtual 117, 3) := by decide +kernel
theorem dX9_fewestOfAll_99 : decode cX9_fewestOfAll 99 = .ok (.aload_n 1, 1) := by decide +kernel
theorem dX9_fewestOfAll_100 : decode cX9_fewestOfAll 100 = .ok (.iload_n 3, 1) := by decide +kernel
theorem dX9_fewestOfAll_101 : decode cX9_fewestOfAll 101 = .ok (.iload_n 2, 1) := by decide +kernel
theorem dX9_fewestOfAll_102 : decode cX9_fewestOfAll 102 = .ok (.invokestatic 133, 3) := by decide +kernel
theorem dX9_fewestOfAll_105 : decode cX9_fewestOfAll 105 = .ok (.invokevirtual 117, 3) := by decide +kernel
theorem dX9_fewestOfAll_108 : decode cX9_fewestOfAll 108 = .ok (.invokestatic 128, 3) := by decide +kernel
theorem dX9_fewestOfAll_111 : decode cX9_fewestOfAll 111 = .ok (.invokevirtual 99, 3) := by decide +kernel
theorem dX9_fewestOfAll_114 : decode cX9_fewestOfAll 114 = .ok (.iinc 3 1, 3) := by decide +kernel
theorem dX9_fewestOfAll_117 : decode cX9_fewestOfAll 117 = .ok (.goto (-32), 3) := by decide +kernel
theorem dX9_fewestOfAll_120 : decode cX9_fewestOfAll 120 = .ok (.iinc 2 1, 3) := by decide +kernel
theorem dX9_fewestOfAll_123 : decode cX9_fewestOfAll 123 = .ok (.goto (-46), 3) := by decide +kernel
theorem dX9_fewestOfAll_126 : decode cX9_fewestOfAll 126 = .ok (.return_, 1) := by decide +kernel
theorem dX10_init_0 : decode cX10_init 0 = .ok (.aload_n 0, 1) := by decide +kernel
theorem dX10_init_1 : decode cX10_init 1 = .ok (.invokespecial 3, 3) := by decide +kernel
theorem dX10_init_4 : decode cX10_init 4 = .ok (.aload_n 0, 1) := by decide +kernel
theorem dX10_init_5 : decode cX10_init 5 = .ok (.bipush 8, 2) := by decide +kernel
theorem dX10_init_7 : decode cX10_init 7 = .ok (.anewarray 9, 3) := by decide +kernel
theorem dX10_init_10 : decode cX10_init 10 = .ok (.putfield 11, 3) := by decide +kernel
theorem dX10_init_13 : decode cX10_init 13 = .ok (.aload_n 0, 1) := by decide +kernel
theorem dX10_init_14 : decode cX10_init 14 = .ok (.new 17, 3) := by decide +kernel
theorem dX10_init_17 : decode cX10_init 17 = .ok (.dup, 1) := by decide +kernel
theorem dX10_init_18 : decode cX10_init 18 = .ok (.sipush 256, 3) := by decide +kernel
theorem dX10_init_21 : decode cX10_init 21 = .ok (.invokespecial 19, 3) := by decide +kernel
theorem dX10_init_24 : decode cX10_init 24 = .ok (.putfield 22, 3) := by decide +kernel
theorem dX10_init_27 : decode cX10_init 27 = .ok (.aload_n 0, 1) := by decide +kernel
theorem dX10_init_28 : decode cX10_init 28 = .ok (.new 17, 3) := by decide +kernel
theorem dX10_init_31 : decode cX10_init 31 = .ok (.dup, 1) := by decide +kernel
theorem dX10_init_32 : decode cX10_init 32 = .ok (.sipush 256, 3) := by decide +kernel
theorem dX10_init_35 : decode cX10_init 35 = .ok (.invokespecial 19, 3) := by decide +kernel
theorem dX10_init_38 : decode cX10_init 38 = .ok (.putfield 26, 3) := by decide +kernel
theorem dX10_init_41 : decode cX10_init 41 = .ok (.aload_n 0, 1) := by decide +kernel
theorem dX10_init_42 : decode cX10_init 42 = .ok (.new 17, 3) := by decide +kernel
theorem dX10_init_45 : decode cX10_init 45 = .ok (.dup, 1) := by decide +kernel
theorem dX10_init_46 : decode cX10_init 46 = .ok (.bipush 8, 2) := by decide +kernel
theorem dX10_init_48 : decode cX10_init 48 = .ok (.invokespecial 19, 3) := by decide +kernel
theorem dX10_init_51 : decode cX10_init 51 = .ok (.putfield 29, 3) := by decide +kernel
theorem dX10_init_54 : decode cX10_init 54 = .ok (.aload_n 0, 1) := by decide +kernel
theorem dX10_init_55 : decode cX10_init 55 = .ok (.aload_n 1, 1) := by decide +kernel
theorem dX10_init_56 : decode cX10_init 56 = .ok (.putfield 32, 3) := by decide +kernel
theorem dX10_init_59 : decode cX10_init 59 = .ok (.aload_n 0, 1) := by decide +kernel
theorem dX10_init_60 : decode cX10_init 60 = .ok (.aload_n 2, 1) := by decide +kernel
theorem dX10_init_61 : decode cX10_init 61 = .ok (.putfield 36, 3) := by decide +kernel
theorem dX10_init_64 : decode cX10_init 64 = .ok (.return_, 1) := by decide +kernel
theorem dX10_asked_0 : decode cX10_asked 0 = .ok (.aload_n 0, 1) := by decide +kernel
theorem dX10_asked_1 : decode cX10_asked 1 = .ok (.getfield 40, 3) := by decide +kernel
theorem dX10_asked_4 : decode cX10_asked 4 = .ok (.ireturn, 1) := by decide +kernel
theorem dX10_question_0 : decode cX10_question 0 = .ok (.iload_n 1, 1) := by decide +kernel
theorem dX10_question_1 : decode cX10_question 1 = .ok (.ifCond .lt 21, 3) := by decide +kernel
theorem dX10_question_4 : decode cX10_question 4 = .ok (.iload_n 1, 1) := by decide +kernel
theorem dX10_question_5 : decode cX10_question 5 = .ok (.aload_n 0, 1) := by decide +kernel
theorem dX10_question_6 : decode cX10_question 6 = .ok (.getfield 11, 3) := by decide +kernel
theorem dX10_question_9 : decode cX10_question 9 = .ok (.arraylength, 1) := by decide +kernel
theorem dX10_question_10 : decode cX10_question 10 = .ok (.if_icmp .ge 12, 3) := by decide +kernel
theorem dX10_question_13 : decode cX10_question 13 = .ok (.aload_n 0, 1) := by decide +kernel
theorem dX10_question_14 : decode cX10_question 14 = .ok (.getfield 11, 3) := by decide +kernel
theorem dX10_question_17 : decode cX10_question 17 = .ok (.iload_n 1, 1) := by decide +kernel
theorem dX10_question_18 : decode cX10_question 18 = .ok (.aaload, 1) := by decide +kernel
theorem dX10_question_19 : decode cX10_question 19 = .ok (.goto 4, 3) := by decide +kernel
theorem dX10_question_22 : decode cX10_question 22 = .ok (.aconst_null, 1) := by decide +kernel
theorem dX10_question_23 : decode cX10_question 23 = .ok (.areturn, 1) := by decide +kernel
theorem dX10_add_0 : decode cX10_add 0 = .ok (.aload_n 0, 1) := by decide +kernel
theorem dX10_add_1 : decode cX10_add 1 = .ok (.getfield 40, 3) := by decide +kernel
theorem dX10_add_4 : decode cX10_add 4 = .ok (.istore_n 2, 1) := by decide +kernel
theorem dX10_add_5 : decode cX10_add 5 = .ok (.iload_n 2, 1) := by decide +kernel
theorem dX10_add_6 : decode cX10_add 6 = .ok (.ifCond .lt 12, 3) := by decide +kernel
theorem dX10_add_9 : decode cX10_add 9 = .ok (.iload_n 2, 1) := by decide +kernel
theorem dX10_add_10 : decode cX10_add 10 = .ok (.aload_n 0, 1) := by decide +kernel
theorem dX10_add_11 : decode cX10_add 11 = .ok (.getfield 11, 3) := by decide +kernel
theorem dX10_add_14 : decode cX10_add 14 = .ok (.arraylength, 1) := by decide +kernel
theorem dX10_add_15 : decode cX10_add 15 = .ok (.if_icmp .lt 6, 3) := by decide +kernel
theorem dX10_add_18 : decode cX10_add 18 = .ok (.bipush (-104), 2) := by decide +kernel
theorem dX10_add_20 : decode cX10_add 20 = .ok (.ireturn, 1) := by decide +kernel
theorem dX10_add_21 : decode cX10_add 21 = .ok (.aload_n 0, 1) := by decide +kernel
theorem dX10_add_22 : decode cX10_add 22 = .ok (.getfield 11, 3) := by decide +kernel
theorem dX10_add_25 : decode cX10_add 25 = .ok (.iload_n 2, 1) := by decide +kernel
theorem dX10_add_26 : decode cX10_add 26 = .ok (.aload_n 1, 1) := by decide +kernel
theorem dX10_add_27 : decode cX10_add 27 = .ok (.aastore, 1) := by decide +kernel
theorem dX10_add_28 : decode cX10_add 28 = .ok (.aload_n 0, 1) := by decide +kernel
theorem dX10_add_29 : decode cX10_add 29 = .ok (.dup, 1) := by decide +kernel
theorem dX10_add_30 : decode cX10_add 30 = .ok (.getfield 40, 3) := by decide +kernel
theorem dX10_add_33 : decode cX10_add 33 = .ok (.iconst 1, 1) := by decide +kernel
theorem dX10_add_34 : decode cX10_add 34 = .ok (.iadd, 1) := by decide +kernel
theorem dX10_add_35 : decode cX10_add 35 = .ok (.putfield 40, 3) := by decide +kernel
theorem dX10_add_38 : decode cX10_add 38 = .ok (.iload_n 2, 1) := by decide +kernel
theorem dX10_add_39 : decode cX10_add 39 = .ok (.ireturn, 1) := by decide +kernel
theorem dX10_upkeepNow_0 : decode cX10_upkeepNow 0 = .ok (.aload_n 0, 1) := by decide +kernel
theorem dX10_upkeepNow_1 : decode cX10_upkeepNow 1 = .ok (.getfield 44, 3) := by decide +kernel
theorem dX10_upkeepNow_4 : decode cX10_upkeepNow 4 = .ok (.ireturn, 1) := by decide +kernel
theorem dX10_setUpkeep_0 : decode cX10_setUpkeep 0 = .ok (.aload_n 0, 1) := by decide +kernel
theorem dX10_setUpkeep_1 : decode cX10_setUpkeep 1 = .ok (.iload_n 1, 1) := by decide +kernel
theorem dX10_setUpkeep_2 : decode cX10_setUpkeep 2 = .ok (.putfield 44, 3) := by decide +kernel
theorem dX10_setUpkeep_5 : decode cX10_setUpkeep 5 = .ok (.return_, 1) := by decide +kernel
theorem dX10_workOf_0 : decode cX10_workOf 0 = .ok (.aload_n 0, 1) := by decide +kernel
theorem dX10_workOf_1 : decode cX10_workOf 1 = .ok (.getfield 44, 3) := by decide +kernel
theorem dX10_workOf_4 : decode cX10_workOf 4 = .ok (.aload_n 0, 1) := by decide +kernel
theorem dX10_workOf_5 : decode cX10_workOf 5 = .ok (.getfield 32, 3) := by decide +kernel
theorem dX10_workOf_8 : decode cX10_workOf 8 = .ok (.iload_n 1, 1) := by decide +kernel
theorem dX10_workOf_9 : decode cX10_workOf 9 = .ok (.invokevirtual 47, 3) := by decide +kernel
theorem dX10_workOf_12 : decode cX10_workOf 12 = .ok (.imul, 1) := by decide +kernel
theorem dX10_workOf_13 : decode cX10_workOf 13 = .ok (.istore_n 2, 1) := by decide +kernel
theorem dX10_workOf_14 : decode cX10_workOf 14 = .ok (.iconst 0, 1) := by decide +kernel
theorem dX10_workOf_15 : decode cX10_workOf 15 = .ok (.istore_n 3, 1) := by decide +kernel
theorem dX10_workOf_16 : decode cX10_workOf 16 = .ok (.iload_n 3, 1) := by decide +kernel
theorem dX10_workOf_17 : decode cX10_workOf 17 = .ok (.aload_n 0, 1) := by decide +kernel
theorem dX10_workOf_18 : decode cX10_workOf 18 = .ok (.getfield 40, 3) := by decide +kernel
theorem dX10_workOf_21 : decode cX10_workOf 21 = .ok (.if_icmp .ge 54, 3) := by decide +kernel
theorem dX10_workOf_24 : decode cX10_workOf 24 = .ok (.aload_n 0, 1) := by decide +kernel
theorem dX10_workOf_25 : decode cX10_workOf 25 = .ok (.iload_n 3, 1) := by decide +kernel
theorem dX10_workOf_26 : decode cX10_workOf 26 = .ok (.invokevirtual 53, 3) := by decide +kernel
theorem dX10_workOf_29 : decode cX10_workOf 29 = .ok (.astore 4, 2) := by decide +kernel
theorem dX10_workOf_31 : decode cX10_workOf 31 = .ok (.aload 4, 2) := by decide +kernel
theorem dX10_workOf_33 : decode cX10_workOf 33 = .ok (.ifnull 36, 3) := by decide +kernel
theorem dX10_workOf_36 : decode cX10_workOf 36 = .ok (.aload_n 0, 1) := by decide +kernel
theorem dX10_workOf_37 : decode cX10_workOf 37 = .ok (.getfield 36, 3) := by decide +kernel
theorem dX10_workOf_40 : decode cX10_workOf 40 = .ok (.aload 4, 2) := by decide +kernel
theorem dX10_workOf_42 : decode cX10_workOf 42 = .ok (.invokevirtual 57, 3) := by decide +kernel
theorem dX10_workOf_45 : decode cX10_workOf 45 = .ok (.iload_n 2, 1) := by decide +kernel
theorem dX10_workOf_46 : decode cX10_workOf 46 = .ok (.aload 4, 2) := by decide +kernel
theorem dX10_workOf_48 : decode cX10_workOf 48 = .ok (.invokevirtual 63, 3) := by decide +kernel
theorem dX10_workOf_51 : decode cX10_workOf 51 = .ok (.aload_n 0, 1) := by decide +kernel
theorem dX10_workOf_52 : decode cX10_workOf 52 = .ok (.getfield 36, 3) := by decide +kernel
theorem dX10_workOf_55 : decode cX10_workOf 55 = .ok (.aload_n 0, 1) := by decide +kernel
theorem dX10_workOf_56 : decode cX10_workOf 56 = .ok (.getfield 36, 3) := by decide +kernel
theorem dX10_workOf_59 : decode cX10_workOf 59 = .ok (.iload_n 1, 1) := by decide +kernel
theorem dX10_workOf_60 : decode cX10_workOf 60 = .ok (.invokevirtual 67, 3) := by decide +kernel
theorem dX10_workOf_63 : decode cX10_workOf 63 = .ok (.invokevirtual 70, 3) := by decide +kernel
theorem dX10_workOf_66 : decode cX10_workOf 66 = .ok (.imul, 1) := by decide +kernel
theorem dX10_workOf_67 : decode cX10_workOf 67 = .ok (.iadd, 1) := by decide +kernel
theorem dX10_workOf_68 : decode cX10_workOf 68 = .ok (.istore_n 2, 1) := by decide +kernel
theorem dX10_workOf_69 : decode cX10_workOf 69 = .ok (.iinc 3 1, 3) := by decide +kernel
theorem dX10_workOf_72 : decode cX10_workOf 72 = .ok (.goto (-56), 3) := by decide +kernel
theorem dX10_workOf_75 : decode cX10_workOf 75 = .ok (.iload_n 2, 1) := by decide +kernel
theorem dX10_workOf_76 : decode cX10_workOf 76 = .ok (.ireturn, 1) := by decide +kernel
theorem dX10_bestSet_0 : decode cX10_bestSet 0 = .ok (.aload_n 0, 1) := by decide +kernel
theorem dX10_bestSet_1 : decode cX10_bestSet 1 = .ok (.invokevirtual 73, 3) := by decide +kernel
theorem dX10_bestSet_4 : decode cX10_bestSet 4 = .ok (.aload_n 0, 1) := by decide +kernel
theorem dX10_bestSet_5 : decode cX10_bestSet 5 = .ok (.getfield 32, 3) := by decide +kernel
theorem dX10_bestSet_8 : decode cX10_bestSet 8 = .ok (.invokevirtual 76, 3) := by decide +kernel
theorem dX10_bestSet_11 : decode cX10_bestSet 11 = .ok (.istore_n 2, 1) := by decide +kernel
theorem dX10_bestSet_12 : decode cX10_bestSet 12 = .ok (.iconst 0, 1) := by decide +kernel
theorem dX10_bestSet_13 : decode cX10_bestSet 13 = .ok (.istore_n 3, 1) := by decide +kernel
theorem dX10_bestSet_14 : decode cX10_bestSet 14 = .ok (.iconst 1, 1) := by decide +kernel
theorem dX10_bestSet_15 : decode cX10_bestSet 15 = .ok (.istore 4, 2) := by decide +kernel
theorem dX10_bestSet_17 : decode cX10_bestSet 17 = .ok (.iload 4, 2) := by decide +kernel
theorem dX10_bestSet_19 : decode cX10_bestSet 19 = .ok (.sipush 256, 3) := by decide +kernel
theorem dX10_bestSet_22 : decode cX10_bestSet 22 = .ok (.if_icmp .ge 44, 3) := by decide +kernel
theorem dX10_bestSet_25 : decode cX10_bestSet 25 = .ok (.iload 4, 2) := by decide +kernel
theorem dX10_bestSet_27 : decode cX10_bestSet 27 = .ok (.iload_n 2, 1) := by decide +kernel
theorem dX10_bestSet_28 : decode cX10_bestSet 28 = .ok (.iconst (-1), 1) := by decide +kernel
theorem dX10_bestSet_29 : decode cX10_bestSet 29 = .ok (.ixor, 1) := by decide +kernel
theorem dX10_bestSet_30 : decode cX10_bestSet 30 = .ok (.iand, 1) := by decide +kernel
theorem dX10_bestSet_31 : decode cX10_bestSet 31 = .ok (.ifCond .ne 29, 3) := by decide +kernel
theorem dX10_bestSet_34 : decode cX10_bestSet 34 = .ok (.aload_n 0, 1) := by decide +kernel
theorem dX10_bestSet_35 : decode cX10_bestSet 35 = .ok (.getfield 32, 3) := by decide +kernel
theorem dX10_bestSet_38 : decode cX10_bestSet 38 = .ok (.iload 4, 2) := by decide +kernel
theorem dX10_bestSet_40 : decode cX10_bestSet 40 = .ok (.invokevirtual 79, 3) := by decide +kernel
theorem dX10_bestSet_43 : decode cX10_bestSet 43 = .ok (.iload_n 1, 1) := by decide +kernel
theorem dX10_bestSet_44 : decode cX10_bestSet 44 = .ok (.if_icmp .gt 16, 3) := by decide +kernel
theorem dX10_bestSet_47 : decode cX10_bestSet 47 = .ok (.aload_n 0, 1) := by decide +kernel
theorem dX10_bestSet_48 : decode cX10_bestSet 48 = .ok (.iload 4, 2) := by decide +kernel
theorem dX10_bestSet_50 : decode cX10_bestSet 50 = .ok (.iload_n 3, 1) := by decide +kernel
theorem dX10_bestSet_51 : decode cX10_bestSet 51 = .ok (.invokevirtual 82, 3) := by decide +kernel
theorem dX10_bestSet_54 : decode cX10_bestSet 54 = .ok (.ifCond .eq 6, 3) := by decide +kernel
theorem dX10_bestSet_57 : decode cX10_bestSet 57 = .ok (.iload 4, 2) := by decide +kernel
theorem dX10_bestSet_59 : decode cX10_bestSet 59 = .ok (.istore_n 3, 1) := by decide +kernel
theorem dX10_bestSet_60 : decode cX10_bestSet 60 = .ok (.iinc 4 1, 3) := by decide +kernel
theorem dX10_bestSet_63 : decode cX10_bestSet 63 = .ok (.goto (-46), 3) := by decide +kernel
theorem dX10_bestSet_66 : decode cX10_bestSet 66 = .ok (.iload_n 3, 1) := by decide +kernel
theorem dX10_bestSet_67 : decode cX10_bestSet 67 = .ok (.ireturn, 1) := by decide +kernel
theorem dX10_stepByStep_0 : decode cX10_stepByStep 0 = .ok (.aload_n 0, 1) := by decide +kernel
theorem dX10_stepByStep_1 : decode cX10_stepByStep 1 = .ok (.invokevirtual 73, 3) := by decide +kernel
theorem dX10_stepByStep_4 : decode cX10_stepByStep 4 = .ok (.aload_n 0, 1) := by decide +kernel
theorem dX10_stepByStep_5 : decode cX10_stepByStep 5 = .ok (.iconst 0, 1) := by decide +kernel
theorem dX10_stepByStep_6 : decode cX10_stepByStep 6 = .ok (.putfield 86, 3) := by decide +kernel
theorem dX10_stepByStep_9 : decode cX10_stepByStep 9 = .ok (.iconst 0, 1) := by decide +kernel
theorem dX10_stepByStep_10 : decode cX10_stepByStep 10 = .ok (.istore_n 2, 1) := by decide +kernel
theorem dX10_stepByStep_11 : decode cX10_stepByStep 11 = .ok (.iconst 0, 1) := by decide +kernel
theorem dX10_stepByStep_12 : decode cX10_stepByStep 12 = .ok (.istore_n 3, 1) := by decide +kernel
theorem dX10_stepByStep_13 : decode cX10_stepByStep 13 = .ok (.iload_n 3, 1) := by decide +kernel
theorem dX10_stepByStep_14 : decode cX10_stepByStep 14 = .ok (.bipush 8, 2) := by decide +kernel
theorem dX10_stepByStep_16 : decode cX10_stepByStep 16 = .ok (.if_icmp .ge 56, 3) := by decide +kernel
theorem dX10_stepByStep_19 : decode cX10_stepByStep 19 = .ok (.aload_n 0, 1) := by decide +kernel
theorem dX10_stepByStep_20 : decode cX10_stepByStep 20 = .ok (.iload_n 2, 1) := by decide +kernel
theorem dX10_stepByStep_21 : decode cX10_stepByStep 21 = .ok (.iload_n 1, 1) := by decide +kernel
theorem dX10_stepByStep_22 : decode cX10_stepByStep 22 = .ok (.invokevirtual 89, 3) := by decide +kernel
theorem dX10_stepByStep_25 : decode cX10_stepByStep 25 = .ok (.istore 4, 2) := by decide +kernel
theorem dX10_stepByStep_27 : decode cX10_stepByStep 27 = .ok (.iload 4, 2) := by decide +kernel
theorem dX10_stepByStep_29 : decode cX10_stepByStep 29 = .ok (.iconst (-1), 1) := by decide +kernel
theorem dX10_stepByStep_30 : decode cX10_stepByStep 30 = .ok (.if_icmp .ne 6, 3) := by decide +kernel
theorem dX10_stepByStep_33 : decode cX10_stepByStep 33 = .ok (.goto 39, 3) := by decide +kernel
theorem dX10_stepByStep_36 : decode cX10_stepByStep 36 = .ok (.aload_n 0, 1) := by decide +kernel
theorem dX10_stepByStep_37 : decode cX10_stepByStep 37 = .ok (.getfield 29, 3) := by decide +kernel
theorem dX10_stepByStep_40 : decode cX10_stepByStep 40 = .ok (.aload_n 0, 1) := by decide +kernel
theorem dX10_stepByStep_41 : decode cX10_stepByStep 41 = .ok (.getfield 86, 3) := by decide +kernel
theorem dX10_stepByStep_44 : decode cX10_stepByStep 44 = .ok (.iload 4, 2) := by decide +kernel
theorem dX10_stepByStep_46 : decode cX10_stepByStep 46 = .ok (.invokevirtual 93, 3) := by decide +kernel
theorem dX10_stepByStep_49 : decode cX10_stepByStep 49 = .ok (.aload_n 0, 1) := by decide +kernel
theorem dX10_stepByStep_50 : decode cX10_stepByStep 50 = .ok (.dup, 1) := by decide +kernel
theorem dX10_stepByStep_51 : decode cX10_stepByStep 51 = .ok (.getfield 86, 3) := by decide +kernel
theorem dX10_stepByStep_54 : decode cX10_stepByStep 54 = .ok (.iconst 1, 1) := by decide +kernel
theorem dX10_stepByStep_55 : decode cX10_stepByStep 55 = .ok (.iadd, 1) := by decide +kernel
theorem dX10_stepByStep_56 : decode cX10_stepByStep 56 = .ok (.putfield 86, 3) := by decide +kernel
theorem dX10_stepByStep_59 : decode cX10_stepByStep 59 = .ok (.iload_n 2, 1) := by decide +kernel
theorem dX10_stepByStep_60 : decode cX10_stepByStep 60 = .ok (.iload 4, 2) := by decide +kernel
theorem dX10_stepByStep_62 : decode cX10_stepByStep 62 = .ok (.invokestatic 97, 3) := by decide +kernel
theorem dX10_stepByStep_65 : decode cX10_stepByStep 65 = .ok (.istore_n 2, 1) := by decide +kernel
theorem dX10_stepByStep_66 : decode cX10_stepByStep 66 = .ok (.iinc 3 1, 3) := by decide +kernel
theorem dX10_stepByStep_69 : decode cX10_stepByStep 69 = .ok (.goto (-56), 3) := by decide +kernel
theorem dX10_stepByStep_72 : decode cX10_stepByStep 72 = .ok (.iload_n 2, 1) := by decide +kernel
theorem dX10_stepByStep_73 : decode cX10_stepByStep 73 = .ok (.ireturn, 1) := by decide +kernel
theorem dX10_stepAt_0 : decode cX10_stepAt 0 = .ok (.iload_n 1, 1) := by decide +kernel
theorem dX10_stepAt_1 : decode cX10_stepAt 1 = .ok (.ifCond .lt 22, 3) := by decide +kernel
theorem dX10_stepAt_4 : decode cX10_stepAt 4 = .ok (.iload_n 1, 1) := by decide +kernel
theorem dX10_stepAt_5 : decode cX10_stepAt 5 = .ok (.aload_n 0, 1) := by decide +kernel
theorem dX10_stepAt_6 : decode cX10_stepAt 6 = .ok (.getfield 86, 3) := by decide +kernel
theorem dX10_stepAt_9 : decode cX10_stepAt 9 = .ok (.if_icmp .ge 14, 3) := by decide +kernel
theorem dX10_stepAt_12 : decode cX10_stepAt 12 = .ok (.aload_n 0, 1) := by decide +kernel
theorem dX10_stepAt_13 : decode cX10_stepAt 13 = .ok (.getfield 29, 3) := by decide +kernel
theorem dX10_stepAt_16 : decode cX10_stepAt 16 = .ok (.iload_n 1, 1) := by decide +kernel
theorem dX10_stepAt_17 : decode cX10_stepAt 17 = .ok (.invokevirtual 100, 3) := by decide +kernel
theorem dX10_stepAt_20 : decode cX10_stepAt 20 = .ok (.goto 4, 3) := by decide +kernel
theorem dX10_stepAt_23 : decode cX10_stepAt 23 = .ok (.iconst (-1), 1) := by decide +kernel
theorem dX10_stepAt_24 : decode cX10_stepAt 24 = .ok (.ireturn, 1) := by decide +kernel
theorem dX10_workedOut_0 : decode cX10_workedOut 0 = .ok (.aload_n 0, 1) := by decide +kernel
theorem dX10_workedOut_1 : decode cX10_workedOut 1 = .ok (.getfield 22, 3) := by decide +kernel
theorem dX10_workedOut_4 : decode cX10_workedOut 4 = .ok (.iload_n 1, 1) := by decide +kernel
theorem dX10_workedOut_5 : decode cX10_workedOut 5 = .ok (.invokevirtual 100, 3) := by decide +kernel
theorem dX10_workedOut_8 : decode cX10_workedOut 8 = .ok (.ireturn, 1) := by decide +kernel
theorem dX10_workOutAll_0 : decode cX10_workOutAll 0 = .ok (.iconst 0, 1) := by decide +kernel
theorem dX10_workOutAll_1 : decode cX10_workOutAll 1 = .ok (.istore_n 1, 1) := by decide +kernel
theorem dX10_workOutAll_2 : decode cX10_workOutAll 2 = .ok (.iload_n 1, 1) := by decide +kernel
theorem dX10_workOutAll_3 : decode cX10_workOutAll 3 = .ok (.sipush 256, 3) := by decide +kernel
theorem dX10_workOutAll_6 : decode cX10_workOutAll 6 = .ok (.if_icmp .ge 30, 3) := by decide +kernel
theorem dX10_workOutAll_9 : decode cX10_workOutAll 9 = .ok (.aload_n 0, 1) := by decide +kernel
theorem dX10_workOutAll_10 : decode cX10_workOutAll 10 = .ok (.getfield 22, 3) := by decide +kernel
theorem dX10_workOutAll_13 : decode cX10_workOutAll 13 = .ok (.iload_n 1, 1) := by decide +kernel
theorem dX10_workOutAll_14 : decode cX10_workOutAll 14 = .ok (.aload_n 0, 1) := by decide +kernel
theorem dX10_workOutAll_15 : decode cX10_workOutAll 15 = .ok (.getfield 44, 3) := by decide +kernel
theorem dX10_workOutAll_18 : decode cX10_workOutAll 18 = .ok (.aload_n 0, 1) := by decide +kernel
theorem dX10_workOutAll_19 : decode cX10_workOutAll 19 = .ok (.getfield 32, 3) := by decide +kernel
theorem dX10_workOutAll_22 : decode cX10_workOutAll 22 = .ok (.iload_n 1, 1) := by decide +kernel
theorem dX10_workOutAll_23 : decode cX10_workOutAll 23 = .ok (.invokevirtual 47, 3) := by decide +kernel
theorem dX10_workOutAll_26 : decode cX10_workOutAll 26 = .ok (.imul, 1) := by decide +kernel
theorem dX10_workOutAll_27 : decode cX10_workOutAll 27 = .ok (.invokevirtual 93, 3) := by decide +kernel
theorem dX10_workOutAll_30 : decode cX10_workOutAll 30 = .ok (.iinc 1 1, 3) := by decide +kernel
theorem dX10_workOutAll_33 : decode cX10_workOutAll 33 = .ok (.goto (-31), 3) := by decide +kernel
theorem dX10_workOutAll_36 : decode cX10_workOutAll 36 = .ok (.iconst 0, 1) := by decide +kernel
theorem dX10_workOutAll_37 : decode cX10_workOutAll 37 = .ok (.istore_n 1, 1) := by decide +kernel
theorem dX10_workOutAll_38 : decode cX10_workOutAll 38 = .ok (.iload_n 1, 1) := by decide +kernel
theorem dX10_workOutAll_39 : decode cX10_workOutAll 39 = .ok (.aload_n 0, 1) := by decide +kernel
theorem dX10_workOutAll_40 : decode cX10_workOutAll 40 = .ok (.getfield 40, 3) := by decide +kernel
theorem dX10_workOutAll_43 : decode cX10_workOutAll 43 = .ok (.if_icmp .ge 77, 3) := by decide +kernel
theorem dX10_workOutAll_46 : decode cX10_workOutAll 46 = .ok (.aload_n 0, 1) := by decide +kernel
theorem dX10_workOutAll_47 : decode cX10_workOutAll 47 = .ok (.iload_n 1, 1) := by decide +kernel
theorem dX10_workOutAll_48 : decode cX10_workOutAll 48 = .ok (.invokevirtual 53, 3) := by decide +kernel
theorem dX10_workOutAll_51 : decode cX10_workOutAll 51 = .ok (.astore_n 2, 1) := by decide +kernel
theorem dX10_workOutAll_52 : decode cX10_workOutAll 52 = .ok (.aload_n 2, 1) := by decide +kernel
theorem dX10_workOutAll_53 : decode cX10_workOutAll 53 = .ok (.ifnonnull 6, 3) := by decide +kernel
theorem dX10_workOutAll_56 : decode cX10_workOutAll 56 = .ok (.goto 58, 3) := by decide +kernel
theorem dX10_workOutAll_59 : decode cX10_workOutAll 59 = .ok (.aload_n 0, 1) := by decide +kernel
theorem dX10_workOutAll_60 : decode cX10_workOutAll 60 = .ok (.getfield 36, 3) := by decide +kernel
theorem dX10_workOutAll_63 : decode cX10_workOutAll 63 = .ok (.aload_n 2, 1) := by decide +kernel
theorem dX10_workOutAll_64 : decode cX10_workOutAll 64 = .ok (.invokevirtual 57, 3) := by decide +kernel
theorem dX10_workOutAll_67 : decode cX10_workOutAll 67 = .ok (.aload_n 0, 1) := by decide +kernel
theorem dX10_workOutAll_68 : decode cX10_workOutAll 68 = .ok (.getfield 36, 3) := by decide +kernel
theorem dX10_workOutAll_71 : decode cX10_workOutAll 71 = .ok (.aload_n 0, 1) := by decide +kernel
theorem dX10_workOutAll_72 : decode cX10_workOutAll 72 = .ok (.getfield 26, 3) := by decide +kernel
theorem dX10_workOutAll_75 : decode cX10_workOutAll 75 = .ok (.invokevirtual 103, 3) := by decide +kernel
theorem dX10_workOutAll_78 : decode cX10_workOutAll 78 = .ok (.iconst 0, 1) := by decide +kernel
theorem dX10_workOutAll_79 : decode cX10_workOutAll 79 = .ok (.istore_n 3, 1) := by decide +kernel
theorem dX10_workOutAll_80 : decode cX10_workOutAll 80 = .ok (.iload_n 3, 1) := by decide +kernel
theorem dX10_workOutAll_81 : decode cX10_workOutAll 81 = .ok (.sipush 256, 3) := by decide +kernel
theorem dX10_workOutAll_84 : decode cX10_workOutAll 84 = .ok (.if_icmp .ge 30, 3) := by decide +kernel
theorem dX10_workOutAll_87 : decode cX10_workOutAll 87 = .ok (.aload_n 0, 1) := by decide +kernel
theorem dX10_workOutAll_88 : decode cX10_workOutAll 88 = .ok (.getfield 22, 3) := by decide +kernel
theorem dX10_workOutAll_91 : decode cX10_workOutAll 91 = .ok (.iload_n 3, 1) := by decide +kernel
theorem dX10_workOutAll_92 : decode cX10_workOutAll 92 = .ok (.aload_n 2, 1) := by decide +kernel
theorem dX10_workOutAll_93 : decode cX10_workOutAll 93 = .ok (.invokevirtual 63, 3) := by decide +kernel
theorem dX10_workOutAll_96 : decode cX10_workOutAll 96 = .ok (.aload_n 0, 1) := by decide +kernel
theorem dX10_workOutAll_97 : decode cX10_workOutAll 97 = .ok (.getfield 26, 3) := by decide +kernel
theorem dX10_workOutAll_100 : decode cX10_workOutAll 100 = .ok (.iload_n 3, 1) := by decide +kernel
theorem dX10_workOutAll_101 : decode cX10_workOutAll 101 = .ok (.invokevirtual 100, 3) := by decide +kernel
theorem dX10_workOutAll_104 : decode cX10_workOutAll 104 = .ok (.imul, 1) := by decide +kernel
theorem dX10_workOutAll_105 : decode cX10_workOutAll 105 = .ok (.invokevirtual 107, 3) := by decide +kernel
theorem dX10_workOutAll_108 : decode cX10_workOutAll 108 = .ok (.iinc 3 1, 3) := by decide +kernel
theorem dX10_workOutAll_111 : decode cX10_workOutAll 111 = .ok (.goto (-31), 3) := by decide +kernel
theorem dX10_workOutAll_114 : decode cX10_workOutAll 114 = .ok (.iinc 1 1, 3) := by decide +kernel
theorem dX10_workOutAll_117 : decode cX10_workOutAll 117 = .ok (.goto (-79), 3) := by decide +kernel
theorem dX10_workOutAll_120 : decode cX10_workOutAll 120 = .ok (.return_, 1) := by decide +kernel
theorem dX10_isBetter_0 : decode cX10_isBetter 0 = .ok (.aload_n 0, 1) := by decide +kernel
theorem dX10_isBetter_1 : decode cX10_isBetter 1 = .ok (.getfield 22, 3) := by decide +kernel
theorem dX10_isBetter_4 : decode cX10_isBetter 4 = .ok (.iload_n 1, 1) := by decide +kernel
theorem dX10_isBetter_5 : decode cX10_isBetter 5 = .ok (.invokevirtual 100, 3) := by decide +kernel
theorem dX10_isBetter_8 : decode cX10_isBetter 8 = .ok (.aload_n 0, 1) := by decide +kernel
theorem dX10_isBetter_9 : decode cX10_isBetter 9 = .ok (.getfield 22, 3) := by decide +kernel
theorem dX10_isBetter_12 : decode cX10_isBetter 12 = .ok (.iload_n 2, 1) := by decide +kernel
theorem dX10_isBetter_13 : decode cX10_isBetter 13 = .ok (.invokevirtual 100, 3) := by decide +kernel
theorem dX10_isBetter_16 : decode cX10_isBetter 16 = .ok (.if_icmp .eq 28, 3) := by decide +kernel
theorem dX10_isBetter_19 : decode cX10_isBetter 19 = .ok (.aload_n 0, 1) := by decide +kernel
theorem dX10_isBetter_20 : decode cX10_isBetter 20 = .ok (.getfield 22, 3) := by decide +kernel
theorem dX10_isBetter_23 : decode cX10_isBetter 23 = .ok (.iload_n 1, 1) := by decide +kernel
theorem dX10_isBetter_24 : decode cX10_isBetter 24 = .ok (.invokevirtual 100, 3) := by decide +kernel
theorem dX10_isBetter_27 : decode cX10_isBetter 27 = .ok (.aload_n 0, 1) := by decide +kernel
theorem dX10_isBetter_28 : decode cX10_isBetter 28 = .ok (.getfield 22, 3) := by decide +kernel
theorem dX10_isBetter_31 : decode cX10_isBetter 31 = .ok (.iload_n 2, 1) := by decide +kernel
theorem dX10_isBetter_32 : decode cX10_isBetter 32 = .ok (.invokevirtual 100, 3) := by decide +kernel
theorem dX10_isBetter_35 : decode cX10_isBetter 35 = .ok (.if_icmp .ge 7, 3) := by decide +kernel
theorem dX10_isBetter_38 : decode cX10_isBetter 38 = .ok (.iconst 1, 1) := by decide +kernel
theorem dX10_isBetter_39 : decode cX10_isBetter 39 = .ok (.goto 4, 3) := by decide +kernel
theorem dX10_isBetter_42 : decode cX10_isBetter 42 = .ok (.iconst 0, 1) := by decide +kernel
theorem dX10_isBetter_43 : decode cX10_isBetter 43 = .ok (.ireturn, 1) := by decide +kernel
theorem dX10_isBetter_44 : decode cX10_isBetter 44 = .ok (.aload_n 0, 1) := by decide +kernel
theorem dX10_isBetter_45 : decode cX10_isBetter 45 = .ok (.getfield 32, 3) := by decide +kernel
theorem dX10_isBetter_48 : decode cX10_isBetter 48 = .ok (.iload_n 1, 1) := by decide +kernel
theorem dX10_isBetter_49 : decode cX10_isBetter 49 = .ok (.invokevirtual 79, 3) := by decide +kernel
theorem dX10_isBetter_52 : decode cX10_isBetter 52 = .ok (.aload_n 0, 1) := by decide +kernel
theorem dX10_isBetter_53 : decode cX10_isBetter 53 = .ok (.getfield 32, 3) := by decide +kernel
theorem dX10_isBetter_56 : decode cX10_isBetter 56 = .ok (.iload_n 2, 1) := by decide +kernel
theorem dX10_isBetter_57 : decode cX10_isBetter 57 = .ok (.invokevirtual 79, 3) := by decide +kernel
theorem dX10_isBetter_60 : decode cX10_isBetter 60 = .ok (.if_icmp .ge 7, 3) := by decide +kernel
theorem dX10_isBetter_63 : decode cX10_isBetter 63 = .ok (.iconst 1, 1) := by decide +kernel
theorem dX10_isBetter_64 : decode cX10_isBetter 64 = .ok (.goto 4, 3) := by decide +kernel
theorem dX10_isBetter_67 : decode cX10_isBetter 67 = .ok (.iconst 0, 1) := by decide +kernel
theorem dX10_isBetter_68 : decode cX10_isBetter 68 = .ok (.ireturn, 1) := by decide +kernel
theorem dX10_nextStep_0 : decode cX10_nextStep 0 = .ok (.iconst (-1), 1) := by decide +kernel
theorem dX10_nextStep_1 : decode cX10_nextStep 1 = .ok (.istore_n 3, 1) := by decide +kernel
theorem dX10_nextStep_2 : decode cX10_nextStep 2 = .ok (.aload_n 0, 1) := by decide +kernel
theorem dX10_nextStep_3 : decode cX10_nextStep 3 = .ok (.getfield 22, 3) := by decide +kernel
theorem dX10_nextStep_6 : decode cX10_nextStep 6 = .ok (.iload_n 1, 1) := by decide +kernel
theorem dX10_nextStep_7 : decode cX10_nextStep 7 = .ok (.invokevirtual 100, 3) := by decide +kernel
theorem dX10_nextStep_10 : decode cX10_nextStep 10 = .ok (.istore 4, 2) := by decide +kernel
theorem dX10_nextStep_12 : decode cX10_nextStep 12 = .ok (.iconst 0, 1) := by decide +kernel
theorem dX10_nextStep_13 : decode cX10_nextStep 13 = .ok (.istore 5, 2) := by decide +kernel
theorem dX10_nextStep_15 : decode cX10_nextStep 15 = .ok (.iload 5, 2) := by decide +kernel
theorem dX10_nextStep_17 : decode cX10_nextStep 17 = .ok (.bipush 8, 2) := by decide +kernel
theorem dX10_nextStep_19 : decode cX10_nextStep 19 = .ok (.if_icmp .ge 88, 3) := by decide +kernel
theorem dX10_nextStep_22 : decode cX10_nextStep 22 = .ok (.iload_n 1, 1) := by decide +kernel
theorem dX10_nextStep_23 : decode cX10_nextStep 23 = .ok (.iload 5, 2) := by decide +kernel
theorem dX10_nextStep_25 : decode cX10_nextStep 25 = .ok (.invokestatic 97, 3) := by decide +kernel
theorem dX10_nextStep_28 : decode cX10_nextStep 28 = .ok (.istore 6, 2) := by decide +kernel
theorem dX10_nextStep_30 : decode cX10_nextStep 30 = .ok (.iload 6, 2) := by decide +kernel
theorem dX10_nextStep_32 : decode cX10_nextStep 32 = .ok (.iload_n 1, 1) := by decide +kernel
theorem dX10_nextStep_33 : decode cX10_nextStep 33 = .ok (.if_icmp .eq 32, 3) := by decide +kernel
theorem dX10_nextStep_36 : decode cX10_nextStep 36 = .ok (.aload_n 0, 1) := by decide +kernel
theorem dX10_nextStep_37 : decode cX10_nextStep 37 = .ok (.getfield 32, 3) := by decide +kernel
theorem dX10_nextStep_40 : decode cX10_nextStep 40 = .ok (.iload 5, 2) := by decide +kernel
theorem dX10_nextStep_42 : decode cX10_nextStep 42 = .ok (.invokevirtual 110, 3) := by decide +kernel
theorem dX10_nextStep_45 : decode cX10_nextStep 45 = .ok (.ifnull 20, 3) := by decide +kernel
theorem dX10_nextStep_48 : decode cX10_nextStep 48 = .ok (.aload_n 0, 1) := by decide +kernel
theorem dX10_nextStep_49 : decode cX10_nextStep 49 = .ok (.getfield 32, 3) := by decide +kernel
theorem dX10_nextStep_52 : decode cX10_nextStep 52 = .ok (.iload 6, 2) := by decide +kernel
theorem dX10_nextStep_54 : decode cX10_nextStep 54 = .ok (.invokevirtual 79, 3) := by decide +kernel
theorem dX10_nextStep_57 : decode cX10_nextStep 57 = .ok (.iload_n 2, 1) := by decide +kernel
theorem dX10_nextStep_58 : decode cX10_nextStep 58 = .ok (.if_icmp .gt 7, 3) := by decide +kernel
theorem dX10_nextStep_61 : decode cX10_nextStep 61 = .ok (.iconst 1, 1) := by decide +kernel
theorem dX10_nextStep_62 : decode cX10_nextStep 62 = .ok (.goto 4, 3) := by decide +kernel
theorem dX10_nextStep_65 : decode cX10_nextStep 65 = .ok (.iconst 0, 1) := by decide +kernel
theorem dX10_nextStep_66 : decode cX10_nextStep 66 = .ok (.istore 7, 2) := by decide +kernel
theorem dX10_nextStep_68 : decode cX10_nextStep 68 = .ok (.iload 7, 2) := by decide +kernel
theorem dX10_nextStep_70 : decode cX10_nextStep 70 = .ok (.ifCond .eq 31, 3) := by decide +kernel
theorem dX10_nextStep_73 : decode cX10_nextStep 73 = .ok (.aload_n 0, 1) := by decide +kernel
theorem dX10_nextStep_74 : decode cX10_nextStep 74 = .ok (.getfield 22, 3) := by decide +kernel
theorem dX10_nextStep_77 : decode cX10_nextStep 77 = .ok (.iload 6, 2) := by decide +kernel
theorem dX10_nextStep_79 : decode cX10_nextStep 79 = .ok (.invokevirtual 100, 3) := by decide +kernel
theorem dX10_nextStep_82 : decode cX10_nextStep 82 = .ok (.iload 4, 2) := by decide +kernel
theorem dX10_nextStep_84 : decode cX10_nextStep 84 = .ok (.if_icmp .ge 17, 3) := by decide +kernel
theorem dX10_nextStep_87 : decode cX10_nextStep 87 = .ok (.aload_n 0, 1) := by decide +kernel
theorem dX10_nextStep_88 : decode cX10_nextStep 88 = .ok (.getfield 22, 3) := by decide +kernel
theorem dX10_nextStep_91 : decode cX10_nextStep 91 = .ok (.iload 6, 2) := by decide +kernel
theorem dX10_nextStep_93 : decode cX10_nextStep 93 = .ok (.invokevirtual 100, 3) := by decide +kernel
theorem dX10_nextStep_96 : decode cX10_nextStep 96 = .ok (.istore 4, 2) := by decide +kernel
theorem dX10_nextStep_98 : decode cX10_nextStep 98 = .ok (.iload 5, 2) := by decide +kernel
theorem dX10_nextStep_100 : decode cX10_nextStep 100 = .ok (.istore_n 3, 1) := by decide +kernel
theorem dX10_nextStep_101 : decode cX10_nextStep 101 = .ok (.iinc 5 1, 3) := by decide +kernel
theorem dX10_nextStep_104 : decode cX10_nextStep 104 = .ok (.goto (-89), 3) := by decide +kernel
theorem dX10_nextStep_107 : decode cX10_nextStep 107 = .ok (.iload_n 3, 1) := by decide +kernel
theorem dX10_nextStep_108 : decode cX10_nextStep 108 = .ok (.ireturn, 1) := by decide +kernel
theorem dX11_init_0 : decode cX11_init 0 = .ok (.aload_n 0, 1) := by decide +kernel
theorem dX11_init_1 : decode cX11_init 1 = .ok (.invokespecial 1, 3) := by decide +kernel
theorem dX11_init_4 : decode cX11_init 4 = .ok (.aload_n 0, 1) := by decide +kernel
theorem dX11_init_5 : decode cX11_init 5 = .ok (.new 7, 3) := by decide +kernel
theorem dX11_init_8 : decode cX11_init 8 = .ok (.dup, 1) := by decide +kernel
theorem dX11_init_9 : decode cX11_init 9 = .ok (.invokespecial 9, 3) := by decide +kernel
theorem dX11_init_12 : decode cX11_init 12 = .ok (.putfield 10, 3) := by decide +kernel
theorem dX11_init_15 : decode cX11_init 15 = .ok (.aload_n 0, 1) := by decide +kernel
theorem dX11_init_16 : decode cX11_init 16 = .ok (.new 16, 3) := by decide +kernel
theorem dX11_init_19 : decode cX11_init 19 = .ok (.dup, 1) := by decide +kernel
theorem dX11_init_20 : decode cX11_init 20 = .ok (.invokespecial 18, 3) := by decide +kernel
theorem dX11_init_23 : decode cX11_init 23 = .ok (.putfield 19, 3) := by decide +kernel
theorem dX11_init_26 : decode cX11_init 26 = .ok (.new 23, 3) := by decide +kernel
theorem dX11_init_29 : decode cX11_init 29 = .ok (.dup, 1) := by decide +kernel
theorem dX11_init_30 : decode cX11_init 30 = .ok (.invokespecial 25, 3) := by decide +kernel
theorem dX11_init_33 : decode cX11_init 33 = .ok (.astore_n 1, 1) := by decide +kernel
theorem dX11_init_34 : decode cX11_init 34 = .ok (.new 26, 3) := by decide +kernel
theorem dX11_init_37 : decode cX11_init 37 = .ok (.dup, 1) := by decide +kernel
theorem dX11_init_38 : decode cX11_init 38 = .ok (.aload_n 1, 1) := by decide +kernel
theorem dX11_init_39 : decode cX11_init 39 = .ok (.invokespecial 28, 3) := by decide +kernel
theorem dX11_init_42 : decode cX11_init 42 = .ok (.astore_n 2, 1) := by decide +kernel
theorem dX11_init_43 : decode cX11_init 43 = .ok (.new 31, 3) := by decide +kernel
theorem dX11_init_46 : decode cX11_init 46 = .ok (.dup, 1) := by decide +kernel
theorem dX11_init_47 : decode cX11_init 47 = .ok (.aload_n 1, 1) := by decide +kernel
theorem dX11_init_48 : decode cX11_init 48 = .ok (.aload_n 2, 1) := by decide +kernel
theorem dX11_init_49 : decode cX11_init 49 = .ok (.invokespecial 33, 3) := by decide +kernel
theorem dX11_init_52 : decode cX11_init 52 = .ok (.astore_n 3, 1) := by decide +kernel
theorem dX11_init_53 : decode cX11_init 53 = .ok (.aload_n 0, 1) := by decide +kernel
theorem dX11_init_54 : decode cX11_init 54 = .ok (.aload_n 1, 1) := by decide +kernel
theorem dX11_init_55 : decode cX11_init 55 = .ok (.putfield 36, 3) := by decide +kernel
theorem dX11_init_58 : decode cX11_init 58 = .ok (.aload_n 0, 1) := by decide +kernel
theorem dX11_init_59 : decode cX11_init 59 = .ok (.aload_n 2, 1) := by decide +kernel
theorem dX11_init_60 : decode cX11_init 60 = .ok (.putfield 40, 3) := by decide +kernel
theorem dX11_init_63 : decode cX11_init 63 = .ok (.aload_n 0, 1) := by decide +kernel
theorem dX11_init_64 : decode cX11_init 64 = .ok (.aload_n 3, 1) := by decide +kernel
theorem dX11_init_65 : decode cX11_init 65 = .ok (.putfield 44, 3) := by decide +kernel
theorem dX11_init_68 : decode cX11_init 68 = .ok (.aload_n 0, 1) := by decide +kernel
theorem dX11_init_69 : decode cX11_init 69 = .ok (.new 48, 3) := by decide +kernel
theorem dX11_init_72 : decode cX11_init 72 = .ok (.dup, 1) := by decide +kernel
theorem dX11_init_73 : decode cX11_init 73 = .ok (.aload_n 2, 1) := by decide +kernel
theorem dX11_init_74 : decode cX11_init 74 = .ok (.aload_n 3, 1) := by decide +kernel
theorem dX11_init_75 : decode cX11_init 75 = .ok (.invokespecial 50, 3) := by decide +kernel
theorem dX11_init_78 : decode cX11_init 78 = .ok (.putfield 53, 3) := by decide +kernel
theorem dX11_init_81 : decode cX11_init 81 = .ok (.aload_n 0, 1) := by decide +kernel
theorem dX11_init_82 : decode cX11_init 82 = .ok (.new 57, 3) := by decide +kernel
theorem dX11_init_85 : decode cX11_init 85 = .ok (.dup, 1) := by decide +kernel
theorem dX11_init_86 : decode cX11_init 86 = .ok (.aload_n 1, 1) := by decide +kernel
theorem dX11_init_87 : decode cX11_init 87 = .ok (.aload_n 2, 1) := by decide +kernel
theorem dX11_init_88 : decode cX11_init 88 = .ok (.invokespecial 59, 3) := by decide +kernel
theorem dX11_init_91 : decode cX11_init 91 = .ok (.putfield 60, 3) := by decide +kernel
theorem dX11_init_94 : decode cX11_init 94 = .ok (.return_, 1) := by decide +kernel
theorem dX11_row_0 : decode cX11_row 0 = .ok (.iload_n 1, 1) := by decide +kernel
theorem dX11_row_1 : decode cX11_row 1 = .ok (.invokestatic 64, 3) := by decide +kernel
theorem dX11_row_4 : decode cX11_row 4 = .ok (.ifCond .eq 25, 3) := by decide +kernel
theorem dX11_row_7 : decode cX11_row 7 = .ok (.iload_n 2, 1) := by decide +kernel
theorem dX11_row_8 : decode cX11_row 8 = .ok (.invokestatic 64, 3) := by decide +kernel
theorem dX11_row_11 : decode cX11_row 11 = .ok (.ifCond .eq 18, 3) := by decide +kernel
theorem dX11_row_14 : decode cX11_row 14 = .ok (.iload_n 3, 1) := by decide +kernel
theorem dX11_row_15 : decode cX11_row 15 = .ok (.invokestatic 64, 3) := by decide +kernel
theorem dX11_row_18 : decode cX11_row 18 = .ok (.ifCond .eq 11, 3) := by decide +kernel
theorem dX11_row_21 : decode cX11_row 21 = .ok (.iload 4, 2) := by decide +kernel
theorem dX11_row_23 : decode cX11_row 23 = .ok (.invokestatic 64, 3) := by decide +kernel
theorem dX11_row_26 : decode cX11_row 26 = .ok (.ifCond .ne 6, 3) := by decide +kernel
theorem dX11_row_29 : decode cX11_row 29 = .ok (.bipush (-102), 2) := by decide +kernel
theorem dX11_row_31 : decode cX11_row 31 = .ok (.ireturn, 1) := by decide +kernel
theorem dX11_row_32 : decode cX11_row 32 = .ok (.aload_n 0, 1) := by decide +kernel
theorem dX11_row_33 : decode cX11_row 33 = .ok (.getfield 36, 3) := by decide +kernel
theorem dX11_row_36 : decode cX11_row 36 = .ok (.invokevirtual 68, 3) := by decide +kernel
theorem dX11_row_39 : decode cX11_row 39 = .ok (.istore 5, 2) := by decide +kernel
theorem dX11_row_41 : decode cX11_row 41 = .ok (.iload 5, 2) := by decide +kernel
theorem dX11_row_43 : decode cX11_row 43 = .ok (.iconst (-1), 1) := by decide +kernel
theorem dX11_row_44 : decode cX11_row 44 = .ok (.if_icmp .ne 6, 3) := by decide +kernel
theorem dX11_row_47 : decode cX11_row 47 = .ok (.bipush (-104), 2) := by decide +kernel
theorem dX11_row_49 : decode cX11_row 49 = .ok (.ireturn, 1) := by decide +kernel
theorem dX11_row_50 : decode cX11_row 50 = .ok (.aload_n 0, 1) := by decide +kernel
theorem dX11_row_51 : decode cX11_row 51 = .ok (.getfield 36, 3) := by decide +kernel
theorem dX11_row_54 : decode cX11_row 54 = .ok (.iload 5, 2) := by decide +kernel
theorem dX11_row_56 : decode cX11_row 56 = .ok (.iconst 0, 1) := by decide +kernel
theorem dX11_row_57 : decode cX11_row 57 = .ok (.iload_n 1, 1) := by decide +kernel
theorem dX11_row_58 : decode cX11_row 58 = .ok (.invokevirtual 72, 3) := by decide +kernel
theorem dX11_row_61 : decode cX11_row 61 = .ok (.aload_n 0, 1) := by decide +kernel
theorem dX11_row_62 : decode cX11_row 62 = .ok (.getfield 36, 3) := by decide +kernel
theorem dX11_row_65 : decode cX11_row 65 = .ok (.iload 5, 2) := by decide +kernel
theorem dX11_row_67 : decode cX11_row 67 = .ok (.iconst 1, 1) := by decide +kernel
theorem dX11_row_68 : decode cX11_row 68 = .ok (.iload_n 2, 1) := by decide +kernel
theorem dX11_row_69 : decode cX11_row 69 = .ok (.invokevirtual 72, 3) := by decide +kernel
theorem dX11_row_72 : decode cX11_row 72 = .ok (.aload_n 0, 1) := by decide +kernel
theorem dX11_row_73 : decode cX11_row 73 = .ok (.getfield 36, 3) := by decide +kernel
theorem dX11_row_76 : decode cX11_row 76 = .ok (.iload 5, 2) := by decide +kernel
theorem dX11_row_78 : decode cX11_row 78 = .ok (.iconst 2, 1) := by decide +kernel
theorem dX11_row_79 : decode cX11_row 79 = .ok (.iload_n 3, 1) := by decide +kernel
theorem dX11_row_80 : decode cX11_row 80 = .ok (.invokevirtual 72, 3) := by decide +kernel
theorem dX11_row_83 : decode cX11_row 83 = .ok (.aload_n 0, 1) := by decide +kernel
theorem dX11_row_84 : decode cX11_row 84 = .ok (.getfield 36, 3) := by decide +kernel
theorem dX11_row_87 : decode cX11_row 87 = .ok (.iload 5, 2) := by decide +kernel
theorem dX11_row_89 : decode cX11_row 89 = .ok (.iconst 3, 1) := by decide +kernel
theorem dX11_row_90 : decode cX11_row 90 = .ok (.iload 4, 2) := by decide +kernel
theorem dX11_row_92 : decode cX11_row 92 = .ok (.invokevirtual 72, 3) := by decide +kernel
theorem dX11_row_95 : decode cX11_row 95 = .ok (.aload_n 0, 1) := by decide +kernel
theorem dX11_row_96 : decode cX11_row 96 = .ok (.iload 5, 2) := by decide +kernel
theorem dX11_row_98 : decode cX11_row 98 = .ok (.invokevirtual 76, 3) := by decide +kernel
theorem dX11_row_101 : decode cX11_row 101 = .ok (.iload 5, 2) := by decide +kernel
theorem dX11_row_103 : decode cX11_row 103 = .ok (.ireturn, 1) := by decide +kernel
theorem dX11_drop_0 : decode cX11_drop 0 = .ok (.aload_n 0, 1) := by decide +kernel
theorem dX11_drop_1 : decode cX11_drop 1 = .ok (.getfield 36, 3) := by decide +kernel
theorem dX11_drop_4 : decode cX11_drop 4 = .ok (.iload_n 1, 1) := by decide +kernel
theorem dX11_drop_5 : decode cX11_drop 5 = .ok (.invokevirtual 80, 3) := by decide +kernel
theorem dX11_drop_8 : decode cX11_drop 8 = .ok (.ifCond .ne 6, 3) := by decide +kernel
theorem dX11_drop_11 : decode cX11_drop 11 = .ok (.bipush (-101), 2) := by decide +kernel
theorem dX11_drop_13 : decode cX11_drop 13 = .ok (.ireturn, 1) := by decide +kernel
theorem dX11_drop_14 : decode cX11_drop 14 = .ok (.aload_n 0, 1) := by decide +kernel
theorem dX11_drop_15 : decode cX11_drop 15 = .ok (.getfield 40, 3) := by decide +kernel
theorem dX11_drop_18 : decode cX11_drop 18 = .ok (.iload_n 1, 1) := by decide +kernel
theorem dX11_drop_19 : decode cX11_drop 19 = .ok (.invokevirtual 90, 3) := by decide +kernel
theorem dX11_drop_22 : decode cX11_drop 22 = .ok (.aload_n 0, 1) := by decide +kernel
theorem dX11_drop_23 : decode cX11_drop 23 = .ok (.getfield 36, 3) := by decide +kernel
theorem dX11_drop_26 : decode cX11_drop 26 = .ok (.iload_n 1, 1) := by decide +kernel
theorem dX11_drop_27 : decode cX11_drop 27 = .ok (.invokevirtual 96, 3) := by decide +kernel
theorem dX11_drop_30 : decode cX11_drop 30 = .ok (.aload_n 0, 1) := by decide +kernel
theorem dX11_drop_31 : decode cX11_drop 31 = .ok (.getfield 36, 3) := by decide +kernel
theorem dX11_drop_34 : decode cX11_drop 34 = .ok (.invokevirtual 99, 3) := by decide +kernel
theorem dX11_drop_37 : decode cX11_drop 37 = .ok (.ireturn, 1) := by decide +kernel
theorem dX11_fill_0 : decode cX11_fill 0 = .ok (.iload_n 1, 1) := by decide +kernel
theorem dX11_fill_1 : decode cX11_fill 1 = .ok (.ifCond .lt 25, 3) := by decide +kernel
theorem dX11_fill_4 : decode cX11_fill 4 = .ok (.iload_n 2, 1) := by decide +kernel
theorem dX11_fill_5 : decode cX11_fill 5 = .ok (.iconst 1, 1) := by decide +kernel
theorem dX11_fill_6 : decode cX11_fill 6 = .ok (.if_icmp .lt 20, 3) := by decide +kernel
theorem dX11_fill_9 : decode cX11_fill 9 = .ok (.iload_n 2, 1) := by decide +kernel
theorem dX11_fill_10 : decode cX11_fill 10 = .ok (.bipush 64, 2) := by decide +kernel
theorem dX11_fill_12 : decode cX11_fill 12 = .ok (.if_icmp .gt 14, 3) := by decide +kernel
theorem dX11_fill_15 : decode cX11_fill 15 = .ok (.iload_n 3, 1) := by decide +kernel
theorem dX11_fill_16 : decode cX11_fill 16 = .ok (.iconst 1, 1) := by decide +kernel
theorem dX11_fill_17 : decode cX11_fill 17 = .ok (.if_icmp .lt 9, 3) := by decide +kernel
theorem dX11_fill_20 : decode cX11_fill 20 = .ok (.iload_n 3, 1) := by decide +kernel
theorem dX11_fill_21 : decode cX11_fill 21 = .ok (.bipush 100, 2) := by decide +kernel
theorem dX11_fill_23 : decode cX11_fill 23 = .ok (.if_icmp .le 6, 3) := by decide +kernel
theorem dX11_fill_26 : decode cX11_fill 26 = .ok (.bipush (-102), 2) := by decide +kernel
theorem dX11_fill_28 : decode cX11_fill 28 = .ok (.ireturn, 1) := by decide +kernel
theorem dX11_fill_29 : decode cX11_fill 29 = .ok (.iload_n 1, 1) := by decide +kernel
theorem dX11_fill_30 : decode cX11_fill 30 = .ok (.i2l, 1) := by decide +kernel
theorem dX11_fill_31 : decode cX11_fill 31 = .ok (.lstore 4, 2) := by decide +kernel
theorem dX11_fill_33 : decode cX11_fill 33 = .ok (.iconst 0, 1) := by decide +kernel
theorem dX11_fill_34 : decode cX11_fill 34 = .ok (.istore 6, 2) := by decide +kernel
theorem dX11_fill_36 : decode cX11_fill 36 = .ok (.iconst 0, 1) := by decide +kernel
theorem dX11_fill_37 : decode cX11_fill 37 = .ok (.istore 7, 2) := by decide +kernel
theorem dX11_fill_39 : decode cX11_fill 39 = .ok (.iload 7, 2) := by decide +kernel
theorem dX11_fill_41 : decode cX11_fill 41 = .ok (.iload_n 2, 1) := by decide +kernel
theorem dX11_fill_42 : decode cX11_fill 42 = .ok (.if_icmp .ge 89, 3) := by decide +kernel
theorem dX11_fill_45 : decode cX11_fill 45 = .ok (.aload_n 0, 1) := by decide +kernel
theorem dX11_fill_46 : decode cX11_fill 46 = .ok (.getfield 36, 3) := by decide +kernel
theorem dX11_fill_49 : decode cX11_fill 49 = .ok (.invokevirtual 68, 3) := by decide +kernel
theorem dX11_fill_52 : decode cX11_fill 52 = .ok (.istore 8, 2) := by decide +kernel
theorem dX11_fill_54 : decode cX11_fill 54 = .ok (.iload 8, 2) := by decide +kernel
theorem dX11_fill_56 : decode cX11_fill 56 = .ok (.iconst (-1), 1) := by decide +kernel
theorem dX11_fill_57 : decode cX11_fill 57 = .ok (.if_icmp .ne 6, 3) := by decide +kernel
theorem dX11_fill_60 : decode cX11_fill 60 = .ok (.goto 71, 3) := by decide +kernel
theorem dX11_fill_63 : decode cX11_fill 63 = .ok (.iconst 0, 1) := by decide +kernel
theorem dX11_fill_64 : decode cX11_fill 64 = .ok (.istore 9, 2) := by decide +kernel
theorem dX11_fill_66 : decode cX11_fill 66 = .ok (.iload 9, 2) := by decide +kernel
theorem dX11_fill_68 : decode cX11_fill 68 = .ok (.iconst 4, 1) := by decide +kernel
theorem dX11_fill_69 : decode cX11_fill 69 = .ok (.if_icmp .ge 47, 3) := by decide +kernel
theorem dX11_fill_72 : decode cX11_fill 72 = .ok (.ldc2_w 102, 3) := by decide +kernel
theorem dX11_fill_75 : decode cX11_fill 75 = .ok (.lload 4, 2) := by decide +kernel
theorem dX11_fill_77 : decode cX11_fill 77 = .ok (.lmul, 1) := by decide +kernel
theorem dX11_fill_78 : decode cX11_fill 78 = .ok (.ldc2_w 104, 3) := by decide +kernel
theorem dX11_fill_81 : decode cX11_fill 81 = .ok (.ladd, 1) := by decide +kernel
theorem dX11_fill_82 : decode cX11_fill 82 = .ok (.ldc2_w 106, 3) := by decide +kernel
theorem dX11_fill_85 : decode cX11_fill 85 = .ok (.land, 1) := by decide +kernel
theorem dX11_fill_86 : decode cX11_fill 86 = .ok (.lstore 4, 2) := by decide +kernel
theorem dX11_fill_88 : decode cX11_fill 88 = .ok (.aload_n 0, 1) := by decide +kernel
theorem dX11_fill_89 : decode cX11_fill 89 = .ok (.getfield 36, 3) := by decide +kernel
theorem dX11_fill_92 : decode cX11_fill 92 = .ok (.iload 8, 2) := by decide +kernel
theorem dX11_fill_94 : decode cX11_fill 94 = .ok (.iload 9, 2) := by decide +kernel
theorem dX11_fill_96 : decode cX11_fill 96 = .ok (.lload 4, 2) := by decide +kernel
theorem dX11_fill_98 : decode cX11_fill 98 = .ok (.ldc2_w 108, 3) := by decide +kernel
theorem dX11_fill_101 : decode cX11_fill 101 = .ok (.ldiv, 1) := by decide +kernel
theorem dX11_fill_102 : decode cX11_fill 102 = .ok (.l2i, 1) := by decide +kernel
theorem dX11_fill_103 : decode cX11_fill 103 = .ok (.iload_n 3, 1) := by decide +kernel
theorem dX11_fill_104 : decode cX11_fill 104 = .ok (.invokestatic 110, 3) := by decide +kernel
theorem dX11_fill_107 : decode cX11_fill 107 = .ok (.invokevirtual 72, 3) := by decide +kernel
theorem dX11_fill_110 : decode cX11_fill 110 = .ok (.iinc 9 1, 3) := by decide +kernel
theorem dX11_fill_113 : decode cX11_fill 113 = .ok (.goto (-47), 3) := by decide +kernel
theorem dX11_fill_116 : decode cX11_fill 116 = .ok (.aload_n 0, 1) := by decide +kernel
theorem dX11_fill_117 : decode cX11_fill 117 = .ok (.iload 8, 2) := by decide +kernel
theorem dX11_fill_119 : decode cX11_fill 119 = .ok (.invokevirtual 76, 3) := by decide +kernel
theorem dX11_fill_122 : decode cX11_fill 122 = .ok (.iinc 6 1, 3) := by decide +kernel
theorem dX11_fill_125 : decode cX11_fill 125 = .ok (.iinc 7 1, 3) := by decide +kernel
theorem dX11_fill_128 : decode cX11_fill 128 = .ok (.goto (-89), 3) := by decide +kernel
theorem dX11_fill_131 : decode cX11_fill 131 = .ok (.iload 6, 2) := by decide +kernel
theorem dX11_fill_133 : decode cX11_fill 133 = .ok (.ireturn, 1) := by decide +kernel
theorem dX11_get_0 : decode cX11_get 0 = .ok (.iload_n 1, 1) := by decide +kernel
theorem dX11_get_1 : decode cX11_get 1 = .ok (.invokestatic 113, 3) := by decide +kernel
theorem dX11_get_4 : decode cX11_get 4 = .ok (.ifCond .eq 10, 3) := by decide +kernel
theorem dX11_get_7 : decode cX11_get 7 = .ok (.iload_n 2, 1) := by decide +kernel
theorem dX11_get_8 : decode cX11_get 8 = .ok (.invokestatic 83, 3) := by decide +kernel
theorem dX11_get_11 : decode cX11_get 11 = .ok (.ifCond .ne 6, 3) := by decide +kernel
theorem dX11_get_14 : decode cX11_get 14 = .ok (.bipush (-101), 2) := by decide +kernel
theorem dX11_get_16 : decode cX11_get 16 = .ok (.ireturn, 1) := by decide +kernel
theorem dX11_get_17 : decode cX11_get 17 = .ok (.aload_n 0, 1) := by decide +kernel
theorem dX11_get_18 : decode cX11_get 18 = .ok (.getfield 36, 3) := by decide +kernel
theorem dX11_get_21 : decode cX11_get 21 = .ok (.iload_n 1, 1) := by decide +kernel
theorem dX11_get_22 : decode cX11_get 22 = .ok (.invokevirtual 80, 3) := by decide +kernel
theorem dX11_get_25 : decode cX11_get 25 = .ok (.ifCond .eq 15, 3) := by decide +kernel
theorem dX11_get_28 : decode cX11_get 28 = .ok (.aload_n 0, 1) := by decide +kernel
theorem dX11_get_29 : decode cX11_get 29 = .ok (.getfield 36, 3) := by decide +kernel
theorem dX11_get_32 : decode cX11_get 32 = .ok (.iload_n 1, 1) := by decide +kernel
theorem dX11_get_33 : decode cX11_get 33 = .ok (.iload_n 2, 1) := by decide +kernel
theorem dX11_get_34 : decode cX11_get 34 = .ok (.invokevirtual 86, 3) := by decide +kernel
theorem dX11_get_37 : decode cX11_get 37 = .ok (.goto 4, 3) := by decide +kernel
theorem dX11_get_40 : decode cX11_get 40 = .ok (.iconst (-1), 1) := by decide +kernel
theorem dX11_get_41 : decode cX11_get 41 = .ok (.ireturn, 1) := by decide +kernel
theorem dX11_wide_0 : decode cX11_wide 0 = .ok (.iload_n 1, 1) := by decide +kernel
theorem dX11_wide_1 : decode cX11_wide 1 = .ok (.iconst 2, 1) := by decide +kernel
theorem dX11_wide_2 : decode cX11_wide 2 = .ok (.if_icmp .lt 9, 3) := by decide +kernel
theorem dX11_wide_5 : decode cX11_wide 5 = .ok (.iload_n 1, 1) := by decide +kernel
theorem dX11_wide_6 : decode cX11_wide 6 = .ok (.bipush 8, 2) := by decide +kernel
theorem dX11_wide_8 : decode cX11_wide 8 = .ok (.if_icmp .le 6, 3) := by decide +kernel
theorem dX11_wide_11 : decode cX11_wide 11 = .ok (.bipush (-102), 2) := by decide +kernel
theorem dX11_wide_13 : decode cX11_wide 13 = .ok (.ireturn, 1) := by decide +kernel
theorem dX11_wide_14 : decode cX11_wide 14 = .ok (.aload_n 0, 1) := by decide +kernel
theorem dX11_wide_15 : decode cX11_wide 15 = .ok (.getfield 36, 3) := by decide +kernel
theorem dX11_wide_18 : decode cX11_wide 18 = .ok (.invokevirtual 116, 3) := by decide +kernel
theorem dX11_wide_21 : decode cX11_wide 21 = .ok (.istore_n 2, 1) := by decide +kernel
theorem dX11_wide_22 : decode cX11_wide 22 = .ok (.aload_n 0, 1) := by decide +kernel
theorem dX11_wide_23 : decode cX11_wide 23 = .ok (.getfield 36, 3) := by decide +kernel
theorem dX11_wide_26 : decode cX11_wide 26 = .ok (.iload_n 1, 1) := by decide +kernel
theorem dX11_wide_27 : decode cX11_wide 27 = .ok (.invokevirtual 119, 3) := by decide +kernel
theorem dX11_wide_30 : decode cX11_wide 30 = .ok (.iload_n 2, 1) := by decide +kernel
theorem dX11_wide_31 : decode cX11_wide 31 = .ok (.ireturn, 1) := by decide +kernel
theorem dX11_order_0 : decode cX11_order 0 = .ok (.iload_n 1, 1) := by decide +kernel
theorem dX11_order_1 : decode cX11_order 1 = .ok (.invokestatic 122, 3) := by decide +kernel
theorem dX11_order_4 : decode cX11_order 4 = .ok (.ifCond .ne 6, 3) := by decide +kernel
theorem dX11_order_7 : decode cX11_order 7 = .ok (.bipush (-102), 2) := by decide +kernel
theorem dX11_order_9 : decode cX11_order 9 = .ok (.ireturn, 1) := by decide +kernel
theorem dX11_order_10 : decode cX11_order 10 = .ok (.aload_n 0, 1) := by decide +kernel
theorem dX11_order_11 : decode cX11_order 11 = .ok (.getfield 40, 3) := by decide +kernel
theorem dX11_order_14 : decode cX11_order 14 = .ok (.iload_n 1, 1) := by decide +kernel
theorem dX11_order_15 : decode cX11_order 15 = .ok (.invokevirtual 127, 3) := by decide +kernel
theorem dX11_order_18 : decode cX11_order 18 = .ok (.ifCond .eq 6, 3) := by decide +kernel
theorem dX11_order_21 : decode cX11_order 21 = .ok (.bipush (-103), 2) := by decide +kernel
theorem dX11_order_23 : decode cX11_order 23 = .ok (.ireturn, 1) := by decide +kernel
theorem dX11_order_24 : decode cX11_order 24 = .ok (.aload_n 0, 1) := by decide +kernel
theorem dX11_order_25 : decode cX11_order 25 = .ok (.getfield 40, 3) := by decide +kernel
theorem dX11_order_28 : decode cX11_order 28 = .ok (.invokevirtual 130, 3) := by decide +kernel
theorem dX11_order_31 : decode cX11_order 31 = .ok (.bipush 8, 2) := by decide +kernel
theorem dX11_order_33 : decode cX11_order 33 = .ok (.if_icmp .lt 6, 3) := by decide +kernel
theorem dX11_order_36 : decode cX11_order 36 = .ok (.bipush (-104), 2) := by decide +kernel
theorem dX11_order_38 : decode cX11_order 38 = .ok (.ireturn, 1) := by decide +kernel
theorem dX11_order_39 : decode cX11_order 39 = .ok (.aload_n 0, 1) := by decide +kernel
theorem dX11_order_40 : decode cX11_order 40 = .ok (.getfield 40, 3) := by decide +kernel
theorem dX11_order_43 : decode cX11_order 43 = .ok (.iload_n 1, 1) := by decide +kernel
theorem dX11_order_44 : decode cX11_order 44 = .ok (.invokevirtual 133, 3) := by decide +kernel
theorem dX11_order_47 : decode cX11_order 47 = .ok (.ireturn, 1) := by decide +kernel
theorem dX11_about_0 : decode cX11_about 0 = .ok (.aload_n 0, 1) := by decide +kernel
theorem dX11_about_1 : decode cX11_about 1 = .ok (.getfield 40, 3) := by decide +kernel
theorem dX11_about_4 : decode cX11_about 4 = .ok (.iload_n 1, 1) := by decide +kernel
theorem dX11_about_5 : decode cX11_about 5 = .ok (.invokevirtual 137, 3) := by decide +kernel
theorem dX11_about_8 : decode cX11_about 8 = .ok (.astore_n 3, 1) := by decide +kernel
theorem dX11_about_9 : decode cX11_about 9 = .ok (.aload_n 3, 1) := by decide +kernel
theorem dX11_about_10 : decode cX11_about 10 = .ok (.ifnonnull 6, 3) := by decide +kernel
theorem dX11_about_13 : decode cX11_about 13 = .ok (.bipush (-101), 2) := by decide +kernel
theorem dX11_about_15 : decode cX11_about 15 = .ok (.ireturn, 1) := by decide +kernel
theorem dX11_about_16 : decode cX11_about 16 = .ok (.iload_n 2, 1) := by decide +kernel
theorem dX11_about_17 : decode cX11_about 17 = .ok (.tableswitch 60 0 4 #[35, 40, 45, 50, 55], 35) := by decide +kernel
theorem dX11_about_52 : decode cX11_about 52 = .ok (.aload_n 3, 1) := by decide +kernel
theorem dX11_about_53 : decode cX11_about 53 = .ok (.invokevirtual 150, 3) := by decide +kernel
theorem dX11_about_56 : decode cX11_about 56 = .ok (.ireturn, 1) := by decide +kernel
theorem dX11_about_57 : decode cX11_about 57 = .ok (.aload_n 3, 1) := by decide +kernel
theorem dX11_about_58 : decode cX11_about 58 = .ok (.invokevirtual 153, 3) := by decide +kernel
theorem dX11_about_61 : decode cX11_about 61 = .ok (.ireturn, 1) := by decide +kernel
theorem dX11_about_62 : decode cX11_about 62 = .ok (.aload_n 3, 1) := by decide +kernel
theorem dX11_about_63 : decode cX11_about 63 = .ok (.invokevirtual 156, 3) := by decide +kernel
theorem dX11_about_66 : decode cX11_about 66 = .ok (.ireturn, 1) := by decide +kernel
theorem dX11_about_67 : decode cX11_about 67 = .ok (.aload_n 3, 1) := by decide +kernel
theorem dX11_about_68 : decode cX11_about 68 = .ok (.invokevirtual 144, 3) := by decide +kernel
theorem dX11_about_71 : decode cX11_about 71 = .ok (.ireturn, 1) := by decide +kernel
theorem dX11_about_72 : decode cX11_about 72 = .ok (.aload_n 3, 1) := by decide +kernel
theorem dX11_about_73 : decode cX11_about 73 = .ok (.invokevirtual 159, 3) := by decide +kernel
theorem dX11_about_76 : decode cX11_about 76 = .ok (.ireturn, 1) := by decide +kernel
theorem dX11_about_77 : decode cX11_about 77 = .ok (.bipush (-102), 2) := by decide +kernel
theorem dX11_about_79 : decode cX11_about 79 = .ok (.ireturn, 1) := by decide +kernel
theorem dX11_entry_0 : decode cX11_entry 0 = .ok (.aload_n 0, 1) := by decide +kernel
theorem dX11_entry_1 : decode cX11_entry 1 = .ok (.getfield 40, 3) := by decide +kernel
theorem dX11_entry_4 : decode cX11_entry 4 = .ok (.iload_n 1, 1) := by decide +kernel
theorem dX11_entry_5 : decode cX11_entry 5 = .ok (.invokevirtual 137, 3) := by decide +kernel
theorem dX11_entry_8 : decode cX11_entry 8 = .ok (.astore_n 3, 1) := by decide +kernel
theorem dX11_entry_9 : decode cX11_entry 9 = .ok (.aload_n 3, 1) := by decide +kernel
theorem dX11_entry_10 : decode cX11_entry 10 = .ok (.ifnonnull 8, 3) := by decide +kernel
theorem dX11_entry_13 : decode cX11_entry 13 = .ok (.bipush (-101), 2) := by decide +kernel
theorem dX11_entry_15 : decode cX11_entry 15 = .ok (.goto 8, 3) := by decide +kernel
theorem dX11_entry_18 : decode cX11_entry 18 = .ok (.aload_n 3, 1) := by decide +kernel
theorem dX11_entry_19 : decode cX11_entry 19 = .ok (.iload_n 2, 1) := by decide +kernel
theorem dX11_entry_20 : decode cX11_entry 20 = .ok (.invokevirtual 162, 3) := by decide +kernel
theorem dX11_entry_23 : decode cX11_entry 23 = .ok (.ireturn, 1) := by decide +kernel
theorem dX11_leaf_0 : decode cX11_leaf 0 = .ok (.aload_n 0, 1) := by decide +kernel
theorem dX11_leaf_1 : decode cX11_leaf 1 = .ok (.getfield 40, 3) := by decide +kernel
theorem dX11_leaf_4 : decode cX11_leaf 4 = .ok (.iload_n 1, 1) := by decide +kernel
theorem dX11_leaf_5 : decode cX11_leaf 5 = .ok (.invokevirtual 137, 3) := by decide +kernel
theorem dX11_leaf_8 : decode cX11_leaf 8 = .ok (.astore_n 3, 1) := by decide +kernel
theorem dX11_leaf_9 : decode cX11_leaf 9 = .ok (.aload_n 3, 1) := by decide +kernel
theorem dX11_leaf_10 : decode cX11_leaf 10 = .ok (.ifnonnull 8, 3) := by decide +kernel
theorem dX11_leaf_13 : decode cX11_leaf 13 = .ok (.bipush (-101), 2) := by decide +kernel
theorem dX11_leaf_15 : decode cX11_leaf 15 = .ok (.goto 8, 3) := by decide +kernel
theorem dX11_leaf_18 : decode cX11_leaf 18 = .ok (.aload_n 3, 1) := by decide +kernel
theorem dX11_leaf_19 : decode cX11_leaf 19 = .ok (.iload_n 2, 1) := by decide +kernel
theorem dX11_leaf_20 : decode cX11_leaf 20 = .ok (.invokevirtual 165, 3) := by decide +kernel
theorem dX11_leaf_23 : decode cX11_leaf 23 = .ok (.ireturn, 1) := by decide +kernel
theorem dX11_letters_0 : decode cX11_letters 0 = .ok (.lload_n 1, 1) := by decide +kernel
theorem dX11_letters_1 : decode cX11_letters 1 = .ok (.invokestatic 168, 3) := by decide +kernel
theorem dX11_letters_4 : decode cX11_letters 4 = .ok (.istore_n 3, 1) := by decide +kernel
theorem dX11_letters_5 : decode cX11_letters 5 = .ok (.iload_n 3, 1) := by decide +kernel
theorem dX11_letters_6 : decode cX11_letters 6 = .ok (.iconst (-1), 1) := by decide +kernel
theorem dX11_letters_7 : decode cX11_letters 7 = .ok (.if_icmp .ne 6, 3) := by decide +kernel
theorem dX11_letters_10 : decode cX11_letters 10 = .ok (.bipush (-102), 2) := by decide +kernel
theorem dX11_letters_12 : decode cX11_letters 12 = .ok (.ireturn, 1) := by decide +kernel
theorem dX11_letters_13 : decode cX11_letters 13 = .ok (.aload_n 0, 1) := by decide +kernel
theorem dX11_letters_14 : decode cX11_letters 14 = .ok (.getfield 10, 3) := by decide +kernel
theorem dX11_letters_17 : decode cX11_letters 17 = .ok (.invokevirtual 172, 3) := by decide +kernel
theorem dX11_letters_20 : decode cX11_letters 20 = .ok (.iload_n 3, 1) := by decide +kernel
theorem dX11_letters_21 : decode cX11_letters 21 = .ok (.iadd, 1) := by decide +kernel
theorem dX11_letters_22 : decode cX11_letters 22 = .ok (.bipush 60, 2) := by decide +kernel
theorem dX11_letters_24 : decode cX11_letters 24 = .ok (.if_icmp .le 6, 3) := by decide +kernel
theorem dX11_letters_27 : decode cX11_letters 27 = .ok (.bipush (-104), 2) := by decide +kernel
theorem dX11_letters_29 : decode cX11_letters 29 = .ok (.ireturn, 1) := by decide +kernel
theorem dX11_letters_30 : decode cX11_letters 30 = .ok (.iconst 0, 1) := by decide +kernel
theorem dX11_letters_31 : decode cX11_letters 31 = .ok (.istore 4, 2) := by decide +kernel
theorem dX11_letters_33 : decode cX11_letters 33 = .ok (.iload 4, 2) := by decide +kernel
theorem dX11_letters_35 : decode cX11_letters 35 = .ok (.iload_n 3, 1) := by decide +kernel
theorem dX11_letters_36 : decode cX11_letters 36 = .ok (.if_icmp .ge 22, 3) := by decide +kernel
theorem dX11_letters_39 : decode cX11_letters 39 = .ok (.aload_n 0, 1) := by decide +kernel
theorem dX11_letters_40 : decode cX11_letters 40 = .ok (.getfield 10, 3) := by decide +kernel
theorem dX11_letters_43 : decode cX11_letters 43 = .ok (.lload_n 1, 1) := by decide +kernel
theorem dX11_letters_44 : decode cX11_letters 44 = .ok (.iload 4, 2) := by decide +kernel
theorem dX11_letters_46 : decode cX11_letters 46 = .ok (.invokestatic 175, 3) := by decide +kernel
theorem dX11_letters_49 : decode cX11_letters 49 = .ok (.invokevirtual 179, 3) := by decide +kernel
theorem dX11_letters_52 : decode cX11_letters 52 = .ok (.iinc 4 1, 3) := by decide +kernel
theorem dX11_letters_55 : decode cX11_letters 55 = .ok (.goto (-22), 3) := by decide +kernel
theorem dX11_letters_58 : decode cX11_letters 58 = .ok (.aload_n 0, 1) := by decide +kernel
theorem dX11_letters_59 : decode cX11_letters 59 = .ok (.getfield 10, 3) := by decide +kernel
theorem dX11_letters_62 : decode cX11_letters 62 = .ok (.invokevirtual 172, 3) := by decide +kernel
theorem dX11_letters_65 : decode cX11_letters 65 = .ok (.ireturn, 1) := by decide +kernel
theorem dX11_good_0 : decode cX11_good 0 = .ok (.aload_n 0, 1) := by decide +kernel
theorem dX11_good_1 : decode cX11_good 1 = .ok (.getfield 10, 3) := by decide +kernel
theorem dX11_good_4 : decode cX11_good 4 = .ok (.invokevirtual 185, 3) := by decide +kernel
theorem dX11_good_7 : decode cX11_good 7 = .ok (.ireturn, 1) := by decide +kernel
theorem dX11_ask_0 : decode cX11_ask 0 = .ok (.aload_n 0, 1) := by decide +kernel
theorem dX11_ask_1 : decode cX11_ask 1 = .ok (.getfield 10, 3) := by decide +kernel
theorem dX11_ask_4 : decode cX11_ask 4 = .ok (.invokevirtual 185, 3) := by decide +kernel
theorem dX11_ask_7 : decode cX11_ask 7 = .ok (.aload_n 0, 1) := by decide +kernel
theorem dX11_ask_8 : decode cX11_ask 8 = .ok (.getfield 10, 3) := by decide +kernel
theorem dX11_ask_11 : decode cX11_ask 11 = .ok (.invokevirtual 172, 3) := by decide +kernel
theorem dX11_ask_14 : decode cX11_ask 14 = .ok (.if_icmp .lt 13, 3) := by decide +kernel
theorem dX11_ask_17 : decode cX11_ask 17 = .ok (.aload_n 0, 1) := by decide +kernel
theorem dX11_ask_18 : decode cX11_ask 18 = .ok (.getfield 10, 3) := by decide +kernel
theorem dX11_ask_21 : decode cX11_ask 21 = .ok (.invokevirtual 188, 3) := by decide +kernel
theorem dX11_ask_24 : decode cX11_ask 24 = .ok (.ifCond .ne 6, 3) := by decide +kernel
theorem dX11_ask_27 : decode cX11_ask 27 = .ok (.bipush (-103), 2) := by decide +kernel
theorem dX11_ask_29 : decode cX11_ask 29 = .ok (.ireturn, 1) := by decide +kernel
theorem dX11_ask_30 : decode cX11_ask 30 = .ok (.aload_n 0, 1) := by decide +kernel
theorem dX11_ask_31 : decode cX11_ask 31 = .ok (.getfield 53, 3) := by decide +kernel
theorem dX11_ask_34 : decode cX11_ask 34 = .ok (.invokevirtual 192, 3) := by decide +kernel
theorem dX11_ask_37 : decode cX11_ask 37 = .ok (.bipush 8, 2) := by decide +kernel
theorem dX11_ask_39 : decode cX11_ask 39 = .ok (.if_icmp .lt 6, 3) := by decide +kernel
theorem dX11_ask_42 : decode cX11_ask 42 = .ok (.bipush (-104), 2) := by decide +kernel
theorem dX11_ask_44 : decode cX11_ask 44 = .ok (.ireturn, 1) := by decide +kernel
theorem dX11_ask_45 : decode cX11_ask 45 = .ok (.aload_n 0, 1) := by decide +kernel
theorem dX11_ask_46 : decode cX11_ask 46 = .ok (.getfield 53, 3) := by decide +kernel
theorem dX11_ask_49 : decode cX11_ask 49 = .ok (.aload_n 0, 1) := by decide +kernel
theorem dX11_ask_50 : decode cX11_ask 50 = .ok (.getfield 10, 3) := by decide +kernel
theorem dX11_ask_53 : decode cX11_ask 53 = .ok (.invokevirtual 195, 3) := by decide +kernel
theorem dX11_ask_56 : decode cX11_ask 56 = .ok (.invokevirtual 199, 3) := by decide +kernel
theorem dX11_ask_59 : decode cX11_ask 59 = .ok (.istore_n 1, 1) := by decide +kernel
theorem dX11_ask_60 : decode cX11_ask 60 = .ok (.aload_n 0, 1) := by decide +kernel
theorem dX11_ask_61 : decode cX11_ask 61 = .ok (.getfield 10, 3) := by decide +kernel
theorem dX11_ask_64 : decode cX11_ask 64 = .ok (.invokevirtual 182, 3) := by decide +kernel
theorem dX11_ask_67 : decode cX11_ask 67 = .ok (.iload_n 1, 1) := by decide +kernel
theorem dX11_ask_68 : decode cX11_ask 68 = .ok (.ireturn, 1) := by decide +kernel
theorem dX11_bound_0 : decode cX11_bound 0 = .ok (.aload_n 0, 1) := by decide +kernel
theorem dX11_bound_1 : decode cX11_bound 1 = .ok (.getfield 53, 3) := by decide +kernel
theorem dX11_bound_4 : decode cX11_bound 4 = .ok (.iload_n 1, 1) := by decide +kernel
theorem dX11_bound_5 : decode cX11_bound 5 = .ok (.invokevirtual 203, 3) := by decide +kernel
theorem dX11_bound_8 : decode cX11_bound 8 = .ok (.astore 4, 2) := by decide +kernel
theorem dX11_bound_10 : decode cX11_bound 10 = .ok (.aload 4, 2) := by decide +kernel
theorem dX11_bound_12 : decode cX11_bound 12 = .ok (.ifnull 10, 3) := by decide +kernel
theorem dX11_bound_15 : decode cX11_bound 15 = .ok (.iload_n 2, 1) := by decide +kernel
theorem dX11_bound_16 : decode cX11_bound 16 = .ok (.invokestatic 83, 3) := by decide +kernel
theorem dX11_bound_19 : decode cX11_bound 19 = .ok (.ifCond .ne 6, 3) := by decide +kernel
theorem dX11_bound_22 : decode cX11_bound 22 = .ok (.bipush (-101), 2) := by decide +kernel
theorem dX11_bound_24 : decode cX11_bound 24 = .ok (.ireturn, 1) := by decide +kernel
theorem dX11_bound_25 : decode cX11_bound 25 = .ok (.iload_n 3, 1) := by decide +kernel
theorem dX11_bound_26 : decode cX11_bound 26 = .ok (.ifCond .eq 11, 3) := by decide +kernel
theorem dX11_bound_29 : decode cX11_bound 29 = .ok (.iload_n 3, 1) := by decide +kernel
theorem dX11_bound_30 : decode cX11_bound 30 = .ok (.iconst 1, 1) := by decide +kernel
theorem dX11_bound_31 : decode cX11_bound 31 = .ok (.if_icmp .eq 6, 3) := by decide +kernel
theorem dX11_bound_34 : decode cX11_bound 34 = .ok (.bipush (-102), 2) := by decide +kernel
theorem dX11_bound_36 : decode cX11_bound 36 = .ok (.ireturn, 1) := by decide +kernel
theorem dX11_bound_37 : decode cX11_bound 37 = .ok (.aload 4, 2) := by decide +kernel
theorem dX11_bound_39 : decode cX11_bound 39 = .ok (.iload_n 2, 1) := by decide +kernel
theorem dX11_bound_40 : decode cX11_bound 40 = .ok (.invokevirtual 207, 3) := by decide +kernel
theorem dX11_bound_43 : decode cX11_bound 43 = .ok (.ifCond .eq 13, 3) := by decide +kernel
theorem dX11_bound_46 : decode cX11_bound 46 = .ok (.iload_n 3, 1) := by decide +kernel
theorem dX11_bound_47 : decode cX11_bound 47 = .ok (.ifCond .ne 7, 3) := by decide +kernel
theorem dX11_bound_50 : decode cX11_bound 50 = .ok (.iconst 0, 1) := by decide +kernel
theorem dX11_bound_51 : decode cX11_bound 51 = .ok (.goto 4, 3) := by decide +kernel
theorem dX11_bound_54 : decode cX11_bound 54 = .ok (.iconst (-1), 1) := by decide +kernel
theorem dX11_bound_55 : decode cX11_bound 55 = .ok (.ireturn, 1) := by decide +kernel
theorem dX11_bound_56 : decode cX11_bound 56 = .ok (.iload_n 3, 1) := by decide +kernel
theorem dX11_bound_57 : decode cX11_bound 57 = .ok (.ifCond .ne 12, 3) := by decide +kernel
theorem dX11_bound_60 : decode cX11_bound 60 = .ok (.aload 4, 2) := by decide +kernel
theorem dX11_bound_62 : decode cX11_bound 62 = .ok (.iload_n 2, 1) := by decide +kernel
theorem dX11_bound_63 : decode cX11_bound 63 = .ok (.invokevirtual 212, 3) := by decide +kernel
theorem dX11_bound_66 : decode cX11_bound 66 = .ok (.goto 9, 3) := by decide +kernel
theorem dX11_bound_69 : decode cX11_bound 69 = .ok (.aload 4, 2) := by decide +kernel
theorem dX11_bound_71 : decode cX11_bound 71 = .ok (.iload_n 2, 1) := by decide +kernel
theorem dX11_bound_72 : decode cX11_bound 72 = .ok (.invokevirtual 215, 3) := by decide +kernel
theorem dX11_bound_75 : decode cX11_bound 75 = .ok (.ireturn, 1) := by decide +kernel
theorem dX11_weight_0 : decode cX11_weight 0 = .ok (.aload_n 0, 1) := by decide +kernel
theorem dX11_weight_1 : decode cX11_weight 1 = .ok (.getfield 53, 3) := by decide +kernel
theorem dX11_weight_4 : decode cX11_weight 4 = .ok (.iload_n 1, 1) := by decide +kernel
theorem dX11_weight_5 : decode cX11_weight 5 = .ok (.invokevirtual 203, 3) := by decide +kernel
theorem dX11_weight_8 : decode cX11_weight 8 = .ok (.astore_n 3, 1) := by decide +kernel
theorem dX11_weight_9 : decode cX11_weight 9 = .ok (.aload_n 3, 1) := by decide +kernel
theorem dX11_weight_10 : decode cX11_weight 10 = .ok (.ifnonnull 6, 3) := by decide +kernel
theorem dX11_weight_13 : decode cX11_weight 13 = .ok (.bipush (-101), 2) := by decide +kernel
theorem dX11_weight_15 : decode cX11_weight 15 = .ok (.ireturn, 1) := by decide +kernel
theorem dX11_weight_16 : decode cX11_weight 16 = .ok (.iload_n 2, 1) := by decide +kernel
theorem dX11_weight_17 : decode cX11_weight 17 = .ok (.invokestatic 64, 3) := by decide +kernel
theorem dX11_weight_20 : decode cX11_weight 20 = .ok (.ifCond .ne 6, 3) := by decide +kernel
theorem dX11_weight_23 : decode cX11_weight 23 = .ok (.bipush (-102), 2) := by decide +kernel
theorem dX11_weight_25 : decode cX11_weight 25 = .ok (.ireturn, 1) := by decide +kernel
theorem dX11_weight_26 : decode cX11_weight 26 = .ok (.aload_n 3, 1) := by decide +kernel
theorem dX11_weight_27 : decode cX11_weight 27 = .ok (.invokevirtual 218, 3) := by decide +kernel
theorem dX11_weight_30 : decode cX11_weight 30 = .ok (.istore 4, 2) := by decide +kernel
theorem dX11_weight_32 : decode cX11_weight 32 = .ok (.aload_n 3, 1) := by decide +kernel
theorem dX11_weight_33 : decode cX11_weight 33 = .ok (.iload_n 2, 1) := by decide +kernel
theorem dX11_weight_34 : decode cX11_weight 34 = .ok (.invokevirtual 221, 3) := by decide +kernel
theorem dX11_weight_37 : decode cX11_weight 37 = .ok (.iload 4, 2) := by decide +kernel
theorem dX11_weight_39 : decode cX11_weight 39 = .ok (.ireturn, 1) := by decide +kernel
theorem dX11_answers_0 : decode cX11_answers 0 = .ok (.aload_n 0, 1) := by decide +kernel
theorem dX11_answers_1 : decode cX11_answers 1 = .ok (.getfield 53, 3) := by decide +kernel
theorem dX11_answers_4 : decode cX11_answers 4 = .ok (.iload_n 1, 1) := by decide +kernel
theorem dX11_answers_5 : decode cX11_answers 5 = .ok (.invokevirtual 203, 3) := by decide +kernel
theorem dX11_answers_8 : decode cX11_answers 8 = .ok (.astore_n 2, 1) := by decide +kernel
theorem dX11_answers_9 : decode cX11_answers 9 = .ok (.aload_n 2, 1) := by decide +kernel
theorem dX11_answers_10 : decode cX11_answers 10 = .ok (.ifnonnull 8, 3) := by decide +kernel
theorem dX11_answers_13 : decode cX11_answers 13 = .ok (.bipush (-101), 2) := by decide +kernel
theorem dX11_answers_15 : decode cX11_answers 15 = .ok (.goto 16, 3) := by decide +kernel
theorem dX11_answers_18 : decode cX11_answers 18 = .ok (.aload_n 2, 1) := by decide +kernel
theorem dX11_answers_19 : decode cX11_answers 19 = .ok (.aload_n 0, 1) := by decide +kernel
theorem dX11_answers_20 : decode cX11_answers 20 = .ok (.getfield 36, 3) := by decide +kernel
theorem dX11_answers_23 : decode cX11_answers 23 = .ok (.bipush 15, 2) := by decide +kernel
theorem dX11_answers_25 : decode cX11_answers 25 = .ok (.invokevirtual 224, 3) := by decide +kernel
theorem dX11_answers_28 : decode cX11_answers 28 = .ok (.invokestatic 228, 3) := by decide +kernel
theorem dX11_answers_31 : decode cX11_answers 31 = .ok (.ireturn, 1) := by decide +kernel
theorem dX11_answer_0 : decode cX11_answer 0 = .ok (.aload_n 0, 1) := by decide +kernel
theorem dX11_answer_1 : decode cX11_answer 1 = .ok (.getfield 53, 3) := by decide +kernel
theorem dX11_answer_4 : decode cX11_answer 4 = .ok (.iload_n 1, 1) := by decide +kernel
theorem dX11_answer_5 : decode cX11_answer 5 = .ok (.invokevirtual 203, 3) := by decide +kernel
theorem dX11_answer_8 : decode cX11_answer 8 = .ok (.astore_n 3, 1) := by decide +kernel
theorem dX11_answer_9 : decode cX11_answer 9 = .ok (.aload_n 3, 1) := by decide +kernel
theorem dX11_answer_10 : decode cX11_answer 10 = .ok (.ifnonnull 8, 3) := by decide +kernel
theorem dX11_answer_13 : decode cX11_answer 13 = .ok (.bipush (-101), 2) := by decide +kernel
theorem dX11_answer_15 : decode cX11_answer 15 = .ok (.goto 12, 3) := by decide +kernel
theorem dX11_answer_18 : decode cX11_answer 18 = .ok (.aload_n 3, 1) := by decide +kernel
theorem dX11_answer_19 : decode cX11_answer 19 = .ok (.aload_n 0, 1) := by decide +kernel
theorem dX11_answer_20 : decode cX11_answer 20 = .ok (.getfield 36, 3) := by decide +kernel
theorem dX11_answer_23 : decode cX11_answer 23 = .ok (.iload_n 2, 1) := by decide +kernel
theorem dX11_answer_24 : decode cX11_answer 24 = .ok (.invokevirtual 233, 3) := by decide +kernel
theorem dX11_answer_27 : decode cX11_answer 27 = .ok (.ireturn, 1) := by decide +kernel
theorem dX11_looks_0 : decode cX11_looks 0 = .ok (.aload_n 0, 1) := by decide +kernel
theorem dX11_looks_1 : decode cX11_looks 1 = .ok (.getfield 53, 3) := by decide +kernel
theorem dX11_looks_4 : decode cX11_looks 4 = .ok (.iload_n 1, 1) := by decide +kernel
theorem dX11_looks_5 : decode cX11_looks 5 = .ok (.invokevirtual 203, 3) := by decide +kernel
theorem dX11_looks_8 : decode cX11_looks 8 = .ok (.astore_n 3, 1) := by decide +kernel
theorem dX11_looks_9 : decode cX11_looks 9 = .ok (.aload_n 3, 1) := by decide +kernel
theorem dX11_looks_10 : decode cX11_looks 10 = .ok (.ifnonnull 6, 3) := by decide +kernel
theorem dX11_looks_13 : decode cX11_looks 13 = .ok (.bipush (-101), 2) := by decide +kernel
theorem dX11_looks_15 : decode cX11_looks 15 = .ok (.ireturn, 1) := by decide +kernel
theorem dX11_looks_16 : decode cX11_looks 16 = .ok (.aload_n 0, 1) := by decide +kernel
theorem dX11_looks_17 : decode cX11_looks 17 = .ok (.getfield 44, 3) := by decide +kernel
theorem dX11_looks_20 : decode cX11_looks 20 = .ok (.aload_n 3, 1) := by decide +kernel
theorem dX11_looks_21 : decode cX11_looks 21 = .ok (.invokevirtual 237, 3) := by decide +kernel
theorem dX11_looks_24 : decode cX11_looks 24 = .ok (.aload_n 0, 1) := by decide +kernel
theorem dX11_looks_25 : decode cX11_looks 25 = .ok (.getfield 44, 3) := by decide +kernel
theorem dX11_looks_28 : decode cX11_looks 28 = .ok (.iload_n 2, 1) := by decide +kernel
theorem dX11_looks_29 : decode cX11_looks 29 = .ok (.invokevirtual 241, 3) := by decide +kernel
theorem dX11_looks_32 : decode cX11_looks 32 = .ok (.istore 4, 2) := by decide +kernel
theorem dX11_looks_34 : decode cX11_looks 34 = .ok (.iload 4, 2) := by decide +kernel
theorem dX11_looks_36 : decode cX11_looks 36 = .ok (.iconst (-1), 1) := by decide +kernel
theorem dX11_looks_37 : decode cX11_looks 37 = .ok (.if_icmp .ne 8, 3) := by decide +kernel
theorem dX11_looks_40 : decode cX11_looks 40 = .ok (.bipush (-101), 2) := by decide +kernel
theorem dX11_looks_42 : decode cX11_looks 42 = .ok (.goto 12, 3) := by decide +kernel
theorem dX11_looks_45 : decode cX11_looks 45 = .ok (.aload_n 0, 1) := by decide +kernel
theorem dX11_looks_46 : decode cX11_looks 46 = .ok (.getfield 44, 3) := by decide +kernel
theorem dX11_looks_49 : decode cX11_looks 49 = .ok (.iload 4, 2) := by decide +kernel
theorem dX11_looks_51 : decode cX11_looks 51 = .ok (.invokevirtual 244, 3) := by decide +kernel
theorem dX11_looks_54 : decode cX11_looks 54 = .ok (.ireturn, 1) := by decide +kernel
theorem dX11_best_0 : decode cX11_best 0 = .ok (.aload_n 0, 1) := by decide +kernel
theorem dX11_best_1 : decode cX11_best 1 = .ok (.getfield 53, 3) := by decide +kernel
theorem dX11_best_4 : decode cX11_best 4 = .ok (.iload_n 1, 1) := by decide +kernel
theorem dX11_best_5 : decode cX11_best 5 = .ok (.invokevirtual 203, 3) := by decide +kernel
theorem dX11_best_8 : decode cX11_best 8 = .ok (.astore_n 3, 1) := by decide +kernel
theorem dX11_best_9 : decode cX11_best 9 = .ok (.aload_n 3, 1) := by decide +kernel
theorem dX11_best_10 : decode cX11_best 10 = .ok (.ifnonnull 6, 3) := by decide +kernel
theorem dX11_best_13 : decode cX11_best 13 = .ok (.bipush (-101), 2) := by decide +kernel
theorem dX11_best_15 : decode cX11_best 15 = .ok (.ireturn, 1) := by decide +kernel
theorem dX11_best_16 : decode cX11_best 16 = .ok (.iload_n 2, 1) := by decide +kernel
theorem dX11_best_17 : decode cX11_best 17 = .ok (.invokestatic 250, 3) := by decide +kernel
theorem dX11_best_20 : decode cX11_best 20 = .ok (.ifCond .ne 6, 3) := by decide +kernel
theorem dX11_best_23 : decode cX11_best 23 = .ok (.bipush (-102), 2) := by decide +kernel
theorem dX11_best_25 : decode cX11_best 25 = .ok (.ireturn, 1) := by decide +kernel
theorem dX11_best_26 : decode cX11_best 26 = .ok (.aload_n 0, 1) := by decide +kernel
theorem dX11_best_27 : decode cX11_best 27 = .ok (.getfield 44, 3) := by decide +kernel
theorem dX11_best_30 : decode cX11_best 30 = .ok (.aload_n 3, 1) := by decide +kernel
theorem dX11_best_31 : decode cX11_best 31 = .ok (.invokevirtual 237, 3) := by decide +kernel
theorem dX11_best_34 : decode cX11_best 34 = .ok (.aload_n 0, 1) := by decide +kernel
theorem dX11_best_35 : decode cX11_best 35 = .ok (.getfield 44, 3) := by decide +kernel
theorem dX11_best_38 : decode cX11_best 38 = .ok (.aload_n 0, 1) := by decide +kernel
theorem dX11_best_39 : decode cX11_best 39 = .ok (.getfield 44, 3) := by decide +kernel
theorem dX11_best_42 : decode cX11_best 42 = .ok (.iload_n 2, 1) := by decide +kernel
theorem dX11_best_43 : decode cX11_best 43 = .ok (.invokevirtual 253, 3) := by decide +kernel
theorem dX11_best_46 : decode cX11_best 46 = .ok (.invokevirtual 256, 3) := by decide +kernel
theorem dX11_best_49 : decode cX11_best 49 = .ok (.ireturn, 1) := by decide +kernel
theorem dX11_work_0 : decode cX11_work 0 = .ok (.iload_n 1, 1) := by decide +kernel
theorem dX11_work_1 : decode cX11_work 1 = .ok (.invokestatic 250, 3) := by decide +kernel
theorem dX11_work_4 : decode cX11_work 4 = .ok (.ifCond .eq 14, 3) := by decide +kernel
theorem dX11_work_7 : decode cX11_work 7 = .ok (.aload_n 0, 1) := by decide +kernel
theorem dX11_work_8 : decode cX11_work 8 = .ok (.getfield 53, 3) := by decide +kernel
theorem dX11_work_11 : decode cX11_work 11 = .ok (.iload_n 1, 1) := by decide +kernel
theorem dX11_work_12 : decode cX11_work 12 = .ok (.invokevirtual 259, 3) := by decide +kernel
theorem dX11_work_15 : decode cX11_work 15 = .ok (.goto 5, 3) := by decide +kernel
theorem dX11_work_18 : decode cX11_work 18 = .ok (.bipush (-102), 2) := by decide +kernel
theorem dX11_work_20 : decode cX11_work 20 = .ok (.ireturn, 1) := by decide +kernel
theorem dX11_upkeep_0 : decode cX11_upkeep 0 = .ok (.iload_n 1, 1) := by decide +kernel
theorem dX11_upkeep_1 : decode cX11_upkeep 1 = .ok (.invokestatic 64, 3) := by decide +kernel
theorem dX11_upkeep_4 : decode cX11_upkeep 4 = .ok (.ifCond .ne 6, 3) := by decide +kernel
theorem dX11_upkeep_7 : decode cX11_upkeep 7 = .ok (.bipush (-102), 2) := by decide +kernel
theorem dX11_upkeep_9 : decode cX11_upkeep 9 = .ok (.ireturn, 1) := by decide +kernel
theorem dX11_upkeep_10 : decode cX11_upkeep 10 = .ok (.aload_n 0, 1) := by decide +kernel
theorem dX11_upkeep_11 : decode cX11_upkeep 11 = .ok (.getfield 53, 3) := by decide +kernel
theorem dX11_upkeep_14 : decode cX11_upkeep 14 = .ok (.invokevirtual 262, 3) := by decide +kernel
theorem dX11_upkeep_17 : decode cX11_upkeep 17 = .ok (.istore_n 2, 1) := by decide +kernel
theorem dX11_upkeep_18 : decode cX11_upkeep 18 = .ok (.aload_n 0, 1) := by decide +kernel
theorem dX11_upkeep_19 : decode cX11_upkeep 19 = .ok (.getfield 53, 3) := by decide +kernel
theorem dX11_upkeep_22 : decode cX11_upkeep 22 = .ok (.iload_n 1, 1) := by decide +kernel
theorem dX11_upkeep_23 : decode cX11_upkeep 23 = .ok (.invokevirtual 265, 3) := by decide +kernel
theorem dX11_upkeep_26 : decode cX11_upkeep 26 = .ok (.iload_n 2, 1) := by decide +kernel
theorem dX11_upkeep_27 : decode cX11_upkeep 27 = .ok (.ireturn, 1) := by decide +kernel
theorem dX11_choose_0 : decode cX11_choose 0 = .ok (.iload_n 1, 1) := by decide +kernel
theorem dX11_choose_1 : decode cX11_choose 1 = .ok (.invokestatic 268, 3) := by decide +kernel
theorem dX11_choose_4 : decode cX11_choose 4 = .ok (.ifCond .eq 12, 3) := by decide +kernel
theorem dX11_choose_7 : decode cX11_choose 7 = .ok (.iload_n 2, 1) := by decide +kernel
theorem dX11_choose_8 : decode cX11_choose 8 = .ok (.ifCond .lt 8, 3) := by decide +kernel
theorem dX11_choose_11 : decode cX11_choose 11 = .ok (.iload_n 2, 1) := by decide +kernel
theorem dX11_choose_12 : decode cX11_choose 12 = .ok (.iconst 2, 1) := by decide +kernel
theorem dX11_choose_13 : decode cX11_choose 13 = .ok (.if_icmp .le 6, 3) := by decide +kernel
theorem dX11_choose_16 : decode cX11_choose 16 = .ok (.bipush (-102), 2) := by decide +kernel
theorem dX11_choose_18 : decode cX11_choose 18 = .ok (.ireturn, 1) := by decide +kernel
theorem dX11_choose_19 : decode cX11_choose 19 = .ok (.aload_n 0, 1) := by decide +kernel
theorem dX11_choose_20 : decode cX11_choose 20 = .ok (.getfield 271, 3) := by decide +kernel
theorem dX11_choose_23 : decode cX11_choose 23 = .ok (.bipush 20, 2) := by decide +kernel
theorem dX11_choose_25 : decode cX11_choose 25 = .ok (.if_icmp .lt 6, 3) := by decide +kernel
theorem dX11_choose_28 : decode cX11_choose 28 = .ok (.bipush (-103), 2) := by decide +kernel
theorem dX11_choose_30 : decode cX11_choose 30 = .ok (.ireturn, 1) := by decide +kernel
theorem dX11_choose_31 : decode cX11_choose 31 = .ok (.aload_n 0, 1) := by decide +kernel
theorem dX11_choose_32 : decode cX11_choose 32 = .ok (.dup, 1) := by decide +kernel
theorem dX11_choose_33 : decode cX11_choose 33 = .ok (.getfield 271, 3) := by decide +kernel
theorem dX11_choose_36 : decode cX11_choose 36 = .ok (.iconst 1, 1) := by decide +kernel
theorem dX11_choose_37 : decode cX11_choose 37 = .ok (.iadd, 1) := by decide +kernel
theorem dX11_choose_38 : decode cX11_choose 38 = .ok (.putfield 271, 3) := by decide +kernel
theorem dX11_choose_41 : decode cX11_choose 41 = .ok (.aload_n 0, 1) := by decide +kernel
theorem dX11_choose_42 : decode cX11_choose 42 = .ok (.getfield 53, 3) := by decide +kernel
theorem dX11_choose_45 : decode cX11_choose 45 = .ok (.iload_n 1, 1) := by decide +kernel
theorem dX11_choose_46 : decode cX11_choose 46 = .ok (.invokevirtual 275, 3) := by decide +kernel
theorem dX11_choose_49 : decode cX11_choose 49 = .ok (.istore_n 3, 1) := by decide +kernel
theorem dX11_choose_50 : decode cX11_choose 50 = .ok (.iload_n 2, 1) := by decide +kernel
theorem dX11_choose_51 : decode cX11_choose 51 = .ok (.ifCond .ne 5, 3) := by decide +kernel
theorem dX11_choose_54 : decode cX11_choose 54 = .ok (.iload_n 3, 1) := by decide +kernel
theorem dX11_choose_55 : decode cX11_choose 55 = .ok (.ireturn, 1) := by decide +kernel
theorem dX11_choose_56 : decode cX11_choose 56 = .ok (.iload_n 2, 1) := by decide +kernel
theorem dX11_choose_57 : decode cX11_choose 57 = .ok (.iconst 1, 1) := by decide +kernel
theorem dX11_choose_58 : decode cX11_choose 58 = .ok (.if_icmp .ne 14, 3) := by decide +kernel
theorem dX11_choose_61 : decode cX11_choose 61 = .ok (.aload_n 0, 1) := by decide +kernel
theorem dX11_choose_62 : decode cX11_choose 62 = .ok (.getfield 53, 3) := by decide +kernel
theorem dX11_choose_65 : decode cX11_choose 65 = .ok (.iload_n 3, 1) := by decide +kernel
theorem dX11_choose_66 : decode cX11_choose 66 = .ok (.invokevirtual 278, 3) := by decide +kernel
theorem dX11_choose_69 : decode cX11_choose 69 = .ok (.goto 11, 3) := by decide +kernel
theorem dX11_choose_72 : decode cX11_choose 72 = .ok (.aload_n 0, 1) := by decide +kernel
theorem dX11_choose_73 : decode cX11_choose 73 = .ok (.getfield 40, 3) := by decide +kernel
theorem dX11_choose_76 : decode cX11_choose 76 = .ok (.iload_n 3, 1) := by decide +kernel
theorem dX11_choose_77 : decode cX11_choose 77 = .ok (.invokevirtual 281, 3) := by decide +kernel
theorem dX11_choose_80 : decode cX11_choose 80 = .ok (.ireturn, 1) := by decide +kernel
theorem dX11_steps_0 : decode cX11_steps 0 = .ok (.iload_n 2, 1) := by decide +kernel
theorem dX11_steps_1 : decode cX11_steps 1 = .ok (.bipush 10, 2) := by decide +kernel
theorem dX11_steps_3 : decode cX11_steps 3 = .ok (.if_icmp .lt 13, 3) := by decide +kernel
theorem dX11_steps_6 : decode cX11_steps 6 = .ok (.iload_n 2, 1) := by decide +kernel
theorem dX11_steps_7 : decode cX11_steps 7 = .ok (.bipush 18, 2) := by decide +kernel
theorem dX11_steps_9 : decode cX11_steps 9 = .ok (.if_icmp .ge 7, 3) := by decide +kernel
theorem dX11_steps_12 : decode cX11_steps 12 = .ok (.iconst 1, 1) := by decide +kernel
theorem dX11_steps_13 : decode cX11_steps 13 = .ok (.goto 4, 3) := by decide +kernel
theorem dX11_steps_16 : decode cX11_steps 16 = .ok (.iconst 0, 1) := by decide +kernel
theorem dX11_steps_17 : decode cX11_steps 17 = .ok (.istore_n 3, 1) := by decide +kernel
theorem dX11_steps_18 : decode cX11_steps 18 = .ok (.iload_n 1, 1) := by decide +kernel
theorem dX11_steps_19 : decode cX11_steps 19 = .ok (.invokestatic 268, 3) := by decide +kernel
theorem dX11_steps_22 : decode cX11_steps 22 = .ok (.ifCond .eq 16, 3) := by decide +kernel
theorem dX11_steps_25 : decode cX11_steps 25 = .ok (.iload_n 3, 1) := by decide +kernel
theorem dX11_steps_26 : decode cX11_steps 26 = .ok (.ifCond .ne 15, 3) := by decide +kernel
theorem dX11_steps_29 : decode cX11_steps 29 = .ok (.iload_n 2, 1) := by decide +kernel
theorem dX11_steps_30 : decode cX11_steps 30 = .ok (.ifCond .lt 8, 3) := by decide +kernel
theorem dX11_steps_33 : decode cX11_steps 33 = .ok (.iload_n 2, 1) := by decide +kernel
theorem dX11_steps_34 : decode cX11_steps 34 = .ok (.iconst 2, 1) := by decide +kernel
theorem dX11_steps_35 : decode cX11_steps 35 = .ok (.if_icmp .le 6, 3) := by decide +kernel
theorem dX11_steps_38 : decode cX11_steps 38 = .ok (.bipush (-102), 2) := by decide +kernel
theorem dX11_steps_40 : decode cX11_steps 40 = .ok (.ireturn, 1) := by decide +kernel
theorem dX11_steps_41 : decode cX11_steps 41 = .ok (.aload_n 0, 1) := by decide +kernel
theorem dX11_steps_42 : decode cX11_steps 42 = .ok (.getfield 284, 3) := by decide +kernel
theorem dX11_steps_45 : decode cX11_steps 45 = .ok (.bipush 20, 2) := by decide +kernel
theorem dX11_steps_47 : decode cX11_steps 47 = .ok (.if_icmp .lt 6, 3) := by decide +kernel
theorem dX11_steps_50 : decode cX11_steps 50 = .ok (.bipush (-103), 2) := by decide +kernel
theorem dX11_steps_52 : decode cX11_steps 52 = .ok (.ireturn, 1) := by decide +kernel
theorem dX11_steps_53 : decode cX11_steps 53 = .ok (.aload_n 0, 1) := by decide +kernel
theorem dX11_steps_54 : decode cX11_steps 54 = .ok (.dup, 1) := by decide +kernel
theorem dX11_steps_55 : decode cX11_steps 55 = .ok (.getfield 284, 3) := by decide +kernel
theorem dX11_steps_58 : decode cX11_steps 58 = .ok (.iconst 1, 1) := by decide +kernel
theorem dX11_steps_59 : decode cX11_steps 59 = .ok (.iadd, 1) := by decide +kernel
theorem dX11_steps_60 : decode cX11_steps 60 = .ok (.putfield 284, 3) := by decide +kernel
theorem dX11_steps_63 : decode cX11_steps 63 = .ok (.aload_n 0, 1) := by decide +kernel
theorem dX11_steps_64 : decode cX11_steps 64 = .ok (.getfield 53, 3) := by decide +kernel
theorem dX11_steps_67 : decode cX11_steps 67 = .ok (.iload_n 1, 1) := by decide +kernel
theorem dX11_steps_68 : decode cX11_steps 68 = .ok (.invokevirtual 287, 3) := by decide +kernel
theorem dX11_steps_71 : decode cX11_steps 71 = .ok (.istore 4, 2) := by decide +kernel
theorem dX11_steps_73 : decode cX11_steps 73 = .ok (.iload_n 3, 1) := by decide +kernel
theorem dX11_steps_74 : decode cX11_steps 74 = .ok (.ifCond .eq 15, 3) := by decide +kernel
theorem dX11_steps_77 : decode cX11_steps 77 = .ok (.aload_n 0, 1) := by decide +kernel
theorem dX11_steps_78 : decode cX11_steps 78 = .ok (.getfield 53, 3) := by decide +kernel
theorem dX11_steps_81 : decode cX11_steps 81 = .ok (.iload_n 2, 1) := by decide +kernel
theorem dX11_steps_82 : decode cX11_steps 82 = .ok (.bipush 10, 2) := by decide +kernel
theorem dX11_steps_84 : decode cX11_steps 84 = .ok (.isub, 1) := by decide +kernel
theorem dX11_steps_85 : decode cX11_steps 85 = .ok (.invokevirtual 290, 3) := by decide +kernel
theorem dX11_steps_88 : decode cX11_steps 88 = .ok (.ireturn, 1) := by decide +kernel
theorem dX11_steps_89 : decode cX11_steps 89 = .ok (.iload_n 2, 1) := by decide +kernel
theorem dX11_steps_90 : decode cX11_steps 90 = .ok (.ifCond .ne 6, 3) := by decide +kernel
theorem dX11_steps_93 : decode cX11_steps 93 = .ok (.iload 4, 2) := by decide +kernel
theorem dX11_steps_95 : decode cX11_steps 95 = .ok (.ireturn, 1) := by decide +kernel
theorem dX11_steps_96 : decode cX11_steps 96 = .ok (.iload_n 2, 1) := by decide +kernel
theorem dX11_steps_97 : decode cX11_steps 97 = .ok (.iconst 1, 1) := by decide +kernel
theorem dX11_steps_98 : decode cX11_steps 98 = .ok (.if_icmp .ne 15, 3) := by decide +kernel
theorem dX11_steps_101 : decode cX11_steps 101 = .ok (.aload_n 0, 1) := by decide +kernel
theorem dX11_steps_102 : decode cX11_steps 102 = .ok (.getfield 53, 3) := by decide +kernel
theorem dX11_steps_105 : decode cX11_steps 105 = .ok (.iload 4, 2) := by decide +kernel
theorem dX11_steps_107 : decode cX11_steps 107 = .ok (.invokevirtual 278, 3) := by decide +kernel
theorem dX11_steps_110 : decode cX11_steps 110 = .ok (.goto 8, 3) := by decide +kernel
theorem dX11_steps_113 : decode cX11_steps 113 = .ok (.iload 4, 2) := by decide +kernel
theorem dX11_steps_115 : decode cX11_steps 115 = .ok (.invokestatic 293, 3) := by decide +kernel
theorem dX11_steps_118 : decode cX11_steps 118 = .ok (.ireturn, 1) := by decide +kernel
theorem dX11_worth_0 : decode cX11_worth 0 = .ok (.aload_n 0, 1) := by decide +kernel
theorem dX11_worth_1 : decode cX11_worth 1 = .ok (.getfield 40, 3) := by decide +kernel
theorem dX11_worth_4 : decode cX11_worth 4 = .ok (.iload_n 2, 1) := by decide +kernel
theorem dX11_worth_5 : decode cX11_worth 5 = .ok (.invokevirtual 137, 3) := by decide +kernel
theorem dX11_worth_8 : decode cX11_worth 8 = .ok (.ifnonnull 6, 3) := by decide +kernel
theorem dX11_worth_11 : decode cX11_worth 11 = .ok (.bipush (-101), 2) := by decide +kernel
theorem dX11_worth_13 : decode cX11_worth 13 = .ok (.ireturn, 1) := by decide +kernel
theorem dX11_worth_14 : decode cX11_worth 14 = .ok (.iload_n 1, 1) := by decide +kernel
theorem dX11_worth_15 : decode cX11_worth 15 = .ok (.invokestatic 250, 3) := by decide +kernel
theorem dX11_worth_18 : decode cX11_worth 18 = .ok (.ifCond .ne 6, 3) := by decide +kernel
theorem dX11_worth_21 : decode cX11_worth 21 = .ok (.bipush (-102), 2) := by decide +kernel
theorem dX11_worth_23 : decode cX11_worth 23 = .ok (.ireturn, 1) := by decide +kernel
theorem dX11_worth_24 : decode cX11_worth 24 = .ok (.iload_n 1, 1) := by decide +kernel
theorem dX11_worth_25 : decode cX11_worth 25 = .ok (.iload_n 2, 1) := by decide +kernel
theorem dX11_worth_26 : decode cX11_worth 26 = .ok (.invokestatic 297, 3) := by decide +kernel
theorem dX11_worth_29 : decode cX11_worth 29 = .ok (.ifCond .ne 6, 3) := by decide +kernel
theorem dX11_worth_32 : decode cX11_worth 32 = .ok (.bipush (-101), 2) := by decide +kernel
theorem dX11_worth_34 : decode cX11_worth 34 = .ok (.ireturn, 1) := by decide +kernel
theorem dX11_worth_35 : decode cX11_worth 35 = .ok (.aload_n 0, 1) := by decide +kernel
theorem dX11_worth_36 : decode cX11_worth 36 = .ok (.getfield 53, 3) := by decide +kernel
theorem dX11_worth_39 : decode cX11_worth 39 = .ok (.iload_n 1, 1) := by decide +kernel
theorem dX11_worth_40 : decode cX11_worth 40 = .ok (.iload_n 2, 1) := by decide +kernel
theorem dX11_worth_41 : decode cX11_worth 41 = .ok (.invokestatic 301, 3) := by decide +kernel
theorem dX11_worth_44 : decode cX11_worth 44 = .ok (.invokevirtual 259, 3) := by decide +kernel
theorem dX11_worth_47 : decode cX11_worth 47 = .ok (.aload_n 0, 1) := by decide +kernel
theorem dX11_worth_48 : decode cX11_worth 48 = .ok (.getfield 53, 3) := by decide +kernel
theorem dX11_worth_51 : decode cX11_worth 51 = .ok (.iload_n 1, 1) := by decide +kernel
theorem dX11_worth_52 : decode cX11_worth 52 = .ok (.invokevirtual 259, 3) := by decide +kernel
theorem dX11_worth_55 : decode cX11_worth 55 = .ok (.isub, 1) := by decide +kernel
theorem dX11_worth_56 : decode cX11_worth 56 = .ok (.ireturn, 1) := by decide +kernel
theorem dX11_count_0 : decode cX11_count 0 = .ok (.iload_n 1, 1) := by decide +kernel
theorem dX11_count_1 : decode cX11_count 1 = .ok (.tableswitch 120 0 8 #[51, 59, 67, 78, 86, 94, 102, 110, 115], 51) := by decide +kernel
theorem dX11_count_52 : decode cX11_count 52 = .ok (.aload_n 0, 1) := by decide +kernel
theorem dX11_count_53 : decode cX11_count 53 = .ok (.getfield 36, 3) := by decide +kernel
theorem dX11_count_56 : decode cX11_count 56 = .ok (.invokevirtual 99, 3) := by decide +kernel
theorem dX11_count_59 : decode cX11_count 59 = .ok (.ireturn, 1) := by decide +kernel
theorem dX11_count_60 : decode cX11_count 60 = .ok (.aload_n 0, 1) := by decide +kernel
theorem dX11_count_61 : decode cX11_count 61 = .ok (.getfield 36, 3) := by decide +kernel
theorem dX11_count_64 : decode cX11_count 64 = .ok (.invokevirtual 365, 3) := by decide +kernel
theorem dX11_count_67 : decode cX11_count 67 = .ok (.ireturn, 1) := by decide +kernel
theorem dX11_count_68 : decode cX11_count 68 = .ok (.aload_n 0, 1) := by decide +kernel
theorem dX11_count_69 : decode cX11_count 69 = .ok (.getfield 40, 3) := by decide +kernel
theorem dX11_count_72 : decode cX11_count 72 = .ok (.invokevirtual 368, 3) := by decide +kernel
theorem dX11_count_75 : decode cX11_count 75 = .ok (.invokestatic 293, 3) := by decide +kernel
theorem dX11_count_78 : decode cX11_count 78 = .ok (.ireturn, 1) := by decide +kernel
theorem dX11_count_79 : decode cX11_count 79 = .ok (.aload_n 0, 1) := by decide +kernel
theorem dX11_count_80 : decode cX11_count 80 = .ok (.getfield 40, 3) := by decide +kernel
theorem dX11_count_83 : decode cX11_count 83 = .ok (.invokevirtual 130, 3) := by decide +kernel
theorem dX11_count_86 : decode cX11_count 86 = .ok (.ireturn, 1) := by decide +kernel
theorem dX11_count_87 : decode cX11_count 87 = .ok (.aload_n 0, 1) := by decide +kernel
theorem dX11_count_88 : decode cX11_count 88 = .ok (.getfield 53, 3) := by decide +kernel
theorem dX11_count_91 : decode cX11_count 91 = .ok (.invokevirtual 192, 3) := by decide +kernel
theorem dX11_count_94 : decode cX11_count 94 = .ok (.ireturn, 1) := by decide +kernel
theorem dX11_count_95 : decode cX11_count 95 = .ok (.aload_n 0, 1) := by decide +kernel
theorem dX11_count_96 : decode cX11_count 96 = .ok (.getfield 19, 3) := by decide +kernel
theorem dX11_count_99 : decode cX11_count 99 = .ok (.invokevirtual 371, 3) := by decide +kernel
theorem dX11_count_102 : decode cX11_count 102 = .ok (.ireturn, 1) := by decide +kernel
theorem dX11_count_103 : decode cX11_count 103 = .ok (.aload_n 0, 1) := by decide +kernel
theorem dX11_count_104 : decode cX11_count 104 = .ok (.getfield 10, 3) := by decide +kernel
theorem dX11_count_107 : decode cX11_count 107 = .ok (.invokevirtual 172, 3) := by decide +kernel
theorem dX11_count_110 : decode cX11_count 110 = .ok (.ireturn, 1) := by decide +kernel
theorem dX11_count_111 : decode cX11_count 111 = .ok (.aload_n 0, 1) := by decide +kernel
theorem dX11_count_112 : decode cX11_count 112 = .ok (.getfield 271, 3) := by decide +kernel
theorem dX11_count_115 : decode cX11_count 115 = .ok (.ireturn, 1) := by decide +kernel
theorem dX11_count_116 : decode cX11_count 116 = .ok (.aload_n 0, 1) := by decide +kernel
theorem dX11_count_117 : decode cX11_count 117 = .ok (.getfield 284, 3) := by decide +kernel
theorem dX11_count_120 : decode cX11_count 120 = .ok (.ireturn, 1) := by decide +kernel
theorem dX11_count_121 : decode cX11_count 121 = .ok (.bipush (-102), 2) := by decide +kernel
theorem dX11_count_123 : decode cX11_count 123 = .ok (.ireturn, 1) := by decide +kernel
theorem dX11_rowComes_0 : decode cX11_rowComes 0 = .ok (.aload_n 0, 1) := by decide +kernel
theorem dX11_rowComes_1 : decode cX11_rowComes 1 = .ok (.getfield 36, 3) := by decide +kernel
theorem dX11_rowComes_4 : decode cX11_rowComes 4 = .ok (.iload_n 1, 1) := by decide +kernel
theorem dX11_rowComes_5 : decode cX11_rowComes 5 = .ok (.invokevirtual 418, 3) := by decide +kernel
theorem dX11_rowComes_8 : decode cX11_rowComes 8 = .ok (.aload_n 0, 1) := by decide +kernel
theorem dX11_rowComes_9 : decode cX11_rowComes 9 = .ok (.getfield 40, 3) := by decide +kernel
theorem dX11_rowComes_12 : decode cX11_rowComes 12 = .ok (.iload_n 1, 1) := by decide +kernel
theorem dX11_rowComes_13 : decode cX11_rowComes 13 = .ok (.invokevirtual 93, 3) := by decide +kernel
theorem dX11_rowComes_16 : decode cX11_rowComes 16 = .ok (.return_, 1) := by decide +kernel
theorem dX11_lettersIn_0 : decode cX11_lettersIn 0 = .ok (.iconst 0, 1) := by decide +kernel
theorem dX11_lettersIn_1 : decode cX11_lettersIn 1 = .ok (.istore_n 2, 1) := by decide +kernel
theorem dX11_lettersIn_2 : decode cX11_lettersIn 2 = .ok (.iconst 0, 1) := by decide +kernel
theorem dX11_lettersIn_3 : decode cX11_lettersIn 3 = .ok (.istore_n 3, 1) := by decide +kernel
theorem dX11_lettersIn_4 : decode cX11_lettersIn 4 = .ok (.iload_n 3, 1) := by decide +kernel
theorem dX11_lettersIn_5 : decode cX11_lettersIn 5 = .ok (.bipush 8, 2) := by decide +kernel
theorem dX11_lettersIn_7 : decode cX11_lettersIn 7 = .ok (.if_icmp .ge 41, 3) := by decide +kernel
theorem dX11_lettersIn_10 : decode cX11_lettersIn 10 = .ok (.lload_n 0, 1) := by decide +kernel
theorem dX11_lettersIn_11 : decode cX11_lettersIn 11 = .ok (.iload_n 3, 1) := by decide +kernel
theorem dX11_lettersIn_12 : decode cX11_lettersIn 12 = .ok (.invokestatic 175, 3) := by decide +kernel
theorem dX11_lettersIn_15 : decode cX11_lettersIn 15 = .ok (.istore 4, 2) := by decide +kernel
theorem dX11_lettersIn_17 : decode cX11_lettersIn 17 = .ok (.iload 4, 2) := by decide +kernel
theorem dX11_lettersIn_19 : decode cX11_lettersIn 19 = .ok (.ifCond .ne 6, 3) := by decide +kernel
theorem dX11_lettersIn_22 : decode cX11_lettersIn 22 = .ok (.goto 20, 3) := by decide +kernel
theorem dX11_lettersIn_25 : decode cX11_lettersIn 25 = .ok (.iload 4, 2) := by decide +kernel
theorem dX11_lettersIn_27 : decode cX11_lettersIn 27 = .ok (.bipush 126, 2) := by decide +kernel
theorem dX11_lettersIn_29 : decode cX11_lettersIn 29 = .ok (.if_icmp .gt 8, 3) := by decide +kernel
theorem dX11_lettersIn_32 : decode cX11_lettersIn 32 = .ok (.iload_n 2, 1) := by decide +kernel
theorem dX11_lettersIn_33 : decode cX11_lettersIn 33 = .ok (.iload_n 3, 1) := by decide +kernel
theorem dX11_lettersIn_34 : decode cX11_lettersIn 34 = .ok (.if_icmp .ge 5, 3) := by decide +kernel
theorem dX11_lettersIn_37 : decode cX11_lettersIn 37 = .ok (.iconst (-1), 1) := by decide +kernel
theorem dX11_lettersIn_38 : decode cX11_lettersIn 38 = .ok (.ireturn, 1) := by decide +kernel
theorem dX11_lettersIn_39 : decode cX11_lettersIn 39 = .ok (.iinc 2 1, 3) := by decide +kernel
theorem dX11_lettersIn_42 : decode cX11_lettersIn 42 = .ok (.iinc 3 1, 3) := by decide +kernel
theorem dX11_lettersIn_45 : decode cX11_lettersIn 45 = .ok (.goto (-41), 3) := by decide +kernel
theorem dX11_lettersIn_48 : decode cX11_lettersIn 48 = .ok (.iload_n 2, 1) := by decide +kernel
theorem dX11_lettersIn_49 : decode cX11_lettersIn 49 = .ok (.ireturn, 1) := by decide +kernel
theorem dX11_byteOf_0 : decode cX11_byteOf 0 = .ok (.lload_n 0, 1) := by decide +kernel
theorem dX11_byteOf_1 : decode cX11_byteOf 1 = .ok (.bipush 8, 2) := by decide +kernel
theorem dX11_byteOf_3 : decode cX11_byteOf 3 = .ok (.iload_n 2, 1) := by decide +kernel
theorem dX11_byteOf_4 : decode cX11_byteOf 4 = .ok (.imul, 1) := by decide +kernel
theorem dX11_byteOf_5 : decode cX11_byteOf 5 = .ok (.lushr, 1) := by decide +kernel
theorem dX11_byteOf_6 : decode cX11_byteOf 6 = .ok (.ldc2_w 421, 3) := by decide +kernel
theorem dX11_byteOf_9 : decode cX11_byteOf 9 = .ok (.land, 1) := by decide +kernel
theorem dX11_byteOf_10 : decode cX11_byteOf 10 = .ok (.l2i, 1) := by decide +kernel
theorem dX11_byteOf_11 : decode cX11_byteOf 11 = .ok (.ireturn, 1) := by decide +kernel
theorem dX11_isSlot_0 : decode cX11_isSlot 0 = .ok (.iload_n 0, 1) := by decide +kernel
theorem dX11_isSlot_1 : decode cX11_isSlot 1 = .ok (.ifCond .lt 13, 3) := by decide +kernel
theorem dX11_isSlot_4 : decode cX11_isSlot 4 = .ok (.iload_n 0, 1) := by decide +kernel
theorem dX11_isSlot_5 : decode cX11_isSlot 5 = .ok (.bipush 64, 2) := by decide +kernel
theorem dX11_isSlot_7 : decode cX11_isSlot 7 = .ok (.if_icmp .ge 7, 3) := by decide +kernel
theorem dX11_isSlot_10 : decode cX11_isSlot 10 = .ok (.iconst 1, 1) := by decide +kernel
theorem dX11_isSlot_11 : decode cX11_isSlot 11 = .ok (.goto 4, 3) := by decide +kernel
theorem dX11_isSlot_14 : decode cX11_isSlot 14 = .ok (.iconst 0, 1) := by decide +kernel
theorem dX11_isSlot_15 : decode cX11_isSlot 15 = .ok (.ireturn, 1) := by decide +kernel
theorem dX11_isColumn_0 : decode cX11_isColumn 0 = .ok (.iload_n 0, 1) := by decide +kernel
theorem dX11_isColumn_1 : decode cX11_isColumn 1 = .ok (.ifCond .lt 12, 3) := by decide +kernel
theorem dX11_isColumn_4 : decode cX11_isColumn 4 = .ok (.iload_n 0, 1) := by decide +kernel
theorem dX11_isColumn_5 : decode cX11_isColumn 5 = .ok (.iconst 4, 1) := by decide +kernel
theorem dX11_isColumn_6 : decode cX11_isColumn 6 = .ok (.if_icmp .ge 7, 3) := by decide +kernel
theorem dX11_isColumn_9 : decode cX11_isColumn 9 = .ok (.iconst 1, 1) := by decide +kernel
theorem dX11_isColumn_10 : decode cX11_isColumn 10 = .ok (.goto 4, 3) := by decide +kernel
theorem dX11_isColumn_13 : decode cX11_isColumn 13 = .ok (.iconst 0, 1) := by decide +kernel
theorem dX11_isColumn_14 : decode cX11_isColumn 14 = .ok (.ireturn, 1) := by decide +kernel
theorem dX11_isNumber_0 : decode cX11_isNumber 0 = .ok (.iload_n 0, 1) := by decide +kernel
theorem dX11_isNumber_1 : decode cX11_isNumber 1 = .ok (.ifCond .lt 13, 3) := by decide +kernel
theorem dX11_isNumber_4 : decode cX11_isNumber 4 = .ok (.iload_n 0, 1) := by decide +kernel
theorem dX11_isNumber_5 : decode cX11_isNumber 5 = .ok (.bipush 99, 2) := by decide +kernel
theorem dX11_isNumber_7 : decode cX11_isNumber 7 = .ok (.if_icmp .gt 7, 3) := by decide +kernel
theorem dX11_isNumber_10 : decode cX11_isNumber 10 = .ok (.iconst 1, 1) := by decide +kernel
theorem dX11_isNumber_11 : decode cX11_isNumber 11 = .ok (.goto 4, 3) := by decide +kernel
theorem dX11_isNumber_14 : decode cX11_isNumber 14 = .ok (.iconst 0, 1) := by decide +kernel
theorem dX11_isNumber_15 : decode cX11_isNumber 15 = .ok (.ireturn, 1) := by decide +kernel
theorem dX11_isSet_0 : decode cX11_isSet 0 = .ok (.iload_n 0, 1) := by decide +kernel
theorem dX11_isSet_1 : decode cX11_isSet 1 = .ok (.ifCond .lt 14, 3) := by decide +kernel
theorem dX11_isSet_4 : decode cX11_isSet 4 = .ok (.iload_n 0, 1) := by decide +kernel
theorem dX11_isSet_5 : decode cX11_isSet 5 = .ok (.sipush 255, 3) := by decide +kernel
theorem dX11_isSet_8 : decode cX11_isSet 8 = .ok (.if_icmp .gt 7, 3) := by decide +kernel
theorem dX11_isSet_11 : decode cX11_isSet 11 = .ok (.iconst 1, 1) := by decide +kernel
theorem dX11_isSet_12 : decode cX11_isSet 12 = .ok (.goto 4, 3) := by decide +kernel
theorem dX11_isSet_15 : decode cX11_isSet 15 = .ok (.iconst 0, 1) := by decide +kernel
theorem dX11_isSet_16 : decode cX11_isSet 16 = .ok (.ireturn, 1) := by decide +kernel
theorem dX11_isSpace_0 : decode cX11_isSpace 0 = .ok (.iload_n 0, 1) := by decide +kernel
theorem dX11_isSpace_1 : decode cX11_isSpace 1 = .ok (.ifCond .lt 14, 3) := by decide +kernel
theorem dX11_isSpace_4 : decode cX11_isSpace 4 = .ok (.iload_n 0, 1) := by decide +kernel
theorem dX11_isSpace_5 : decode cX11_isSpace 5 = .ok (.sipush 9999, 3) := by decide +kernel
theorem dX11_isSpace_8 : decode cX11_isSpace 8 = .ok (.if_icmp .gt 7, 3) := by decide +kernel
theorem dX11_isSpace_11 : decode cX11_isSpace 11 = .ok (.iconst 1, 1) := by decide +kernel
theorem dX11_isSpace_12 : decode cX11_isSpace 12 = .ok (.goto 4, 3) := by decide +kernel
theorem dX11_isSpace_15 : decode cX11_isSpace 15 = .ok (.iconst 0, 1) := by decide +kernel
theorem dX11_isSpace_16 : decode cX11_isSpace 16 = .ok (.ireturn, 1) := by decide +kernel
theorem dX11_has_0 : decode cX11_has 0 = .ok (.iload_n 0, 1) := by decide +kernel
theorem dX11_has_1 : decode cX11_has 1 = .ok (.iload_n 1, 1) := by decide +kernel
theorem dX11_has_2 : decode cX11_has 2 = .ok (.ishr, 1) := by decide +kernel
theorem dX11_has_3 : decode cX11_has 3 = .ok (.iconst 1, 1) := by decide +kernel
theorem dX11_has_4 : decode cX11_has 4 = .ok (.iand, 1) := by decide +kernel
theorem dX11_has_5 : decode cX11_has 5 = .ok (.ifCond .eq 7, 3) := by decide +kernel
theorem dX11_has_8 : decode cX11_has 8 = .ok (.iconst 1, 1) := by decide +kernel
theorem dX11_has_9 : decode cX11_has 9 = .ok (.goto 4, 3) := by decide +kernel
theorem dX11_has_12 : decode cX11_has 12 = .ok (.iconst 0, 1) := by decide +kernel
theorem dX11_has_13 : decode cX11_has 13 = .ok (.ireturn, 1) := by decide +kernel
theorem dX11_with_0 : decode cX11_with 0 = .ok (.iload_n 0, 1) := by decide +kernel
theorem dX11_with_1 : decode cX11_with 1 = .ok (.iconst 1, 1) := by decide +kernel
theorem dX11_with_2 : decode cX11_with 2 = .ok (.iload_n 1, 1) := by decide +kernel
theorem dX11_with_3 : decode cX11_with 3 = .ok (.ishl, 1) := by decide +kernel
theorem dX11_with_4 : decode cX11_with 4 = .ok (.ior, 1) := by decide +kernel
theorem dX11_with_5 : decode cX11_with 5 = .ok (.ireturn, 1) := by decide +kernel
theorem dX11_without_0 : decode cX11_without 0 = .ok (.iload_n 0, 1) := by decide +kernel
theorem dX11_without_1 : decode cX11_without 1 = .ok (.iconst 1, 1) := by decide +kernel
theorem dX11_without_2 : decode cX11_without 2 = .ok (.iload_n 1, 1) := by decide +kernel
theorem dX11_without_3 : decode cX11_without 3 = .ok (.ishl, 1) := by decide +kernel
theorem dX11_without_4 : decode cX11_without 4 = .ok (.iconst (-1), 1) := by decide +kernel
theorem dX11_without_5 : decode cX11_without 5 = .ok (.ixor, 1) := by decide +kernel
theorem dX11_without_6 : decode cX11_without 6 = .ok (.iand, 1) := by decide +kernel
theorem dX11_without_7 : decode cX11_without 7 = .ok (.ireturn, 1) := by decide +kernel
theorem dX11_hasSlot_0 : decode cX11_hasSlot 0 = .ok (.lload_n 0, 1) := by decide +kernel
theorem dX11_hasSlot_1 : decode cX11_hasSlot 1 = .ok (.iload_n 2, 1) := by decide +kernel
theorem dX11_hasSlot_2 : decode cX11_hasSlot 2 = .ok (.lushr, 1) := by decide +kernel
theorem dX11_hasSlot_3 : decode cX11_hasSlot 3 = .ok (.lconst 1, 1) := by decide +kernel
theorem dX11_hasSlot_4 : decode cX11_hasSlot 4 = .ok (.land, 1) := by decide +kernel
theorem dX11_hasSlot_5 : decode cX11_hasSlot 5 = .ok (.lconst 0, 1) := by decide +kernel
theorem dX11_hasSlot_6 : decode cX11_hasSlot 6 = .ok (.lcmp, 1) := by decide +kernel
theorem dX11_hasSlot_7 : decode cX11_hasSlot 7 = .ok (.ifCond .eq 7, 3) := by decide +kernel
theorem dX11_hasSlot_10 : decode cX11_hasSlot 10 = .ok (.iconst 1, 1) := by decide +kernel
theorem dX11_hasSlot_11 : decode cX11_hasSlot 11 = .ok (.goto 4, 3) := by decide +kernel
theorem dX11_hasSlot_14 : decode cX11_hasSlot 14 = .ok (.iconst 0, 1) := by decide +kernel
theorem dX11_hasSlot_15 : decode cX11_hasSlot 15 = .ok (.ireturn, 1) := by decide +kernel
theorem dX11_quotient_0 : decode cX11_quotient 0 = .ok (.iload_n 1, 1) := by decide +kernel
theorem dX11_quotient_1 : decode cX11_quotient 1 = .ok (.ifCond .le 9, 3) := by decide +kernel
theorem dX11_quotient_4 : decode cX11_quotient 4 = .ok (.iload_n 0, 1) := by decide +kernel
theorem dX11_quotient_5 : decode cX11_quotient 5 = .ok (.iload_n 1, 1) := by decide +kernel
theorem dX11_quotient_6 : decode cX11_quotient 6 = .ok (.idiv, 1) := by decide +kernel
