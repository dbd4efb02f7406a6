theorem dX11_quotient_7 : decode cX11_quotient 7 = .ok (.goto 4, 3) := by decide +kernel
theorem dX11_quotient_10 : decode cX11_quotient 10 = .ok (.iconst 0, 1) := by decide +kernel
theorem dX11_quotient_11 : decode cX11_quotient 11 = .ok (.ireturn, 1) := by decide +kernel
theorem dX11_roundedUp_0 : decode cX11_roundedUp 0 = .ok (.iload_n 0, 1) := by decide +kernel
theorem dX11_roundedUp_1 : decode cX11_roundedUp 1 = .ok (.iload_n 1, 1) := by decide +kernel
theorem dX11_roundedUp_2 : decode cX11_roundedUp 2 = .ok (.iadd, 1) := by decide +kernel
theorem dX11_roundedUp_3 : decode cX11_roundedUp 3 = .ok (.iconst 1, 1) := by decide +kernel
theorem dX11_roundedUp_4 : decode cX11_roundedUp 4 = .ok (.isub, 1) := by decide +kernel
theorem dX11_roundedUp_5 : decode cX11_roundedUp 5 = .ok (.iload_n 1, 1) := by decide +kernel
theorem dX11_roundedUp_6 : decode cX11_roundedUp 6 = .ok (.invokestatic 423, 3) := by decide +kernel
theorem dX11_roundedUp_9 : decode cX11_roundedUp 9 = .ok (.ireturn, 1) := by decide +kernel
theorem dX11_rest_0 : decode cX11_rest 0 = .ok (.iload_n 1, 1) := by decide +kernel
theorem dX11_rest_1 : decode cX11_rest 1 = .ok (.ifCond .le 9, 3) := by decide +kernel
theorem dX11_rest_4 : decode cX11_rest 4 = .ok (.iload_n 0, 1) := by decide +kernel
theorem dX11_rest_5 : decode cX11_rest 5 = .ok (.iload_n 1, 1) := by decide +kernel
theorem dX11_rest_6 : decode cX11_rest 6 = .ok (.irem, 1) := by decide +kernel
theorem dX11_rest_7 : decode cX11_rest 7 = .ok (.goto 4, 3) := by decide +kernel
theorem dX11_rest_10 : decode cX11_rest 10 = .ok (.iconst 0, 1) := by decide +kernel
theorem dX11_rest_11 : decode cX11_rest 11 = .ok (.ireturn, 1) := by decide +kernel
theorem dJ6_bitCount_0f7a4_0 : decode cJ6_bitCount_0f7a4 0 = .ok (.iload_n 0, 1) := by decide +kernel
theorem dJ6_bitCount_0f7a4_1 : decode cJ6_bitCount_0f7a4 1 = .ok (.iload_n 0, 1) := by decide +kernel
theorem dJ6_bitCount_0f7a4_2 : decode cJ6_bitCount_0f7a4 2 = .ok (.iconst 1, 1) := by decide +kernel
theorem dJ6_bitCount_0f7a4_3 : decode cJ6_bitCount_0f7a4 3 = .ok (.iushr, 1) := by decide +kernel
theorem dJ6_bitCount_0f7a4_4 : decode cJ6_bitCount_0f7a4 4 = .ok (.ldc_w 265, 3) := by decide +kernel
theorem dJ6_bitCount_0f7a4_7 : decode cJ6_bitCount_0f7a4 7 = .ok (.iand, 1) := by decide +kernel
theorem dJ6_bitCount_0f7a4_8 : decode cJ6_bitCount_0f7a4 8 = .ok (.isub, 1) := by decide +kernel
theorem dJ6_bitCount_0f7a4_9 : decode cJ6_bitCount_0f7a4 9 = .ok (.istore_n 0, 1) := by decide +kernel
theorem dJ6_bitCount_0f7a4_10 : decode cJ6_bitCount_0f7a4 10 = .ok (.iload_n 0, 1) := by decide +kernel
theorem dJ6_bitCount_0f7a4_11 : decode cJ6_bitCount_0f7a4 11 = .ok (.ldc_w 266, 3) := by decide +kernel
theorem dJ6_bitCount_0f7a4_14 : decode cJ6_bitCount_0f7a4 14 = .ok (.iand, 1) := by decide +kernel
theorem dJ6_bitCount_0f7a4_15 : decode cJ6_bitCount_0f7a4 15 = .ok (.iload_n 0, 1) := by decide +kernel
theorem dJ6_bitCount_0f7a4_16 : decode cJ6_bitCount_0f7a4 16 = .ok (.iconst 2, 1) := by decide +kernel
theorem dJ6_bitCount_0f7a4_17 : decode cJ6_bitCount_0f7a4 17 = .ok (.iushr, 1) := by decide +kernel
theorem dJ6_bitCount_0f7a4_18 : decode cJ6_bitCount_0f7a4 18 = .ok (.ldc_w 266, 3) := by decide +kernel
theorem dJ6_bitCount_0f7a4_21 : decode cJ6_bitCount_0f7a4 21 = .ok (.iand, 1) := by decide +kernel
theorem dJ6_bitCount_0f7a4_22 : decode cJ6_bitCount_0f7a4 22 = .ok (.iadd, 1) := by decide +kernel
theorem dJ6_bitCount_0f7a4_23 : decode cJ6_bitCount_0f7a4 23 = .ok (.istore_n 0, 1) := by decide +kernel
theorem dJ6_bitCount_0f7a4_24 : decode cJ6_bitCount_0f7a4 24 = .ok (.iload_n 0, 1) := by decide +kernel
theorem dJ6_bitCount_0f7a4_25 : decode cJ6_bitCount_0f7a4 25 = .ok (.iload_n 0, 1) := by decide +kernel
theorem dJ6_bitCount_0f7a4_26 : decode cJ6_bitCount_0f7a4 26 = .ok (.iconst 4, 1) := by decide +kernel
theorem dJ6_bitCount_0f7a4_27 : decode cJ6_bitCount_0f7a4 27 = .ok (.iushr, 1) := by decide +kernel
theorem dJ6_bitCount_0f7a4_28 : decode cJ6_bitCount_0f7a4 28 = .ok (.iadd, 1) := by decide +kernel
theorem dJ6_bitCount_0f7a4_29 : decode cJ6_bitCount_0f7a4 29 = .ok (.ldc_w 267, 3) := by decide +kernel
theorem dJ6_bitCount_0f7a4_32 : decode cJ6_bitCount_0f7a4 32 = .ok (.iand, 1) := by decide +kernel
theorem dJ6_bitCount_0f7a4_33 : decode cJ6_bitCount_0f7a4 33 = .ok (.istore_n 0, 1) := by decide +kernel
theorem dJ6_bitCount_0f7a4_34 : decode cJ6_bitCount_0f7a4 34 = .ok (.iload_n 0, 1) := by decide +kernel
theorem dJ6_bitCount_0f7a4_35 : decode cJ6_bitCount_0f7a4 35 = .ok (.iload_n 0, 1) := by decide +kernel
theorem dJ6_bitCount_0f7a4_36 : decode cJ6_bitCount_0f7a4 36 = .ok (.bipush 8, 2) := by decide +kernel
theorem dJ6_bitCount_0f7a4_38 : decode cJ6_bitCount_0f7a4 38 = .ok (.iushr, 1) := by decide +kernel
theorem dJ6_bitCount_0f7a4_39 : decode cJ6_bitCount_0f7a4 39 = .ok (.iadd, 1) := by decide +kernel
theorem dJ6_bitCount_0f7a4_40 : decode cJ6_bitCount_0f7a4 40 = .ok (.istore_n 0, 1) := by decide +kernel
theorem dJ6_bitCount_0f7a4_41 : decode cJ6_bitCount_0f7a4 41 = .ok (.iload_n 0, 1) := by decide +kernel
theorem dJ6_bitCount_0f7a4_42 : decode cJ6_bitCount_0f7a4 42 = .ok (.iload_n 0, 1) := by decide +kernel
theorem dJ6_bitCount_0f7a4_43 : decode cJ6_bitCount_0f7a4 43 = .ok (.bipush 16, 2) := by decide +kernel
theorem dJ6_bitCount_0f7a4_45 : decode cJ6_bitCount_0f7a4 45 = .ok (.iushr, 1) := by decide +kernel
theorem dJ6_bitCount_0f7a4_46 : decode cJ6_bitCount_0f7a4 46 = .ok (.iadd, 1) := by decide +kernel
theorem dJ6_bitCount_0f7a4_47 : decode cJ6_bitCount_0f7a4 47 = .ok (.istore_n 0, 1) := by decide +kernel
theorem dJ6_bitCount_0f7a4_48 : decode cJ6_bitCount_0f7a4 48 = .ok (.iload_n 0, 1) := by decide +kernel
theorem dJ6_bitCount_0f7a4_49 : decode cJ6_bitCount_0f7a4 49 = .ok (.bipush 63, 2) := by decide +kernel
theorem dJ6_bitCount_0f7a4_51 : decode cJ6_bitCount_0f7a4 51 = .ok (.iand, 1) := by decide +kernel
theorem dJ6_bitCount_0f7a4_52 : decode cJ6_bitCount_0f7a4 52 = .ok (.ireturn, 1) := by decide +kernel
theorem dJ13_bitCount_95d88_0 : decode cJ13_bitCount_95d88 0 = .ok (.lload_n 0, 1) := by decide +kernel
theorem dJ13_bitCount_95d88_1 : decode cJ13_bitCount_95d88 1 = .ok (.lload_n 0, 1) := by decide +kernel
theorem dJ13_bitCount_95d88_2 : decode cJ13_bitCount_95d88 2 = .ok (.iconst 1, 1) := by decide +kernel
theorem dJ13_bitCount_95d88_3 : decode cJ13_bitCount_95d88 3 = .ok (.lushr, 1) := by decide +kernel
theorem dJ13_bitCount_95d88_4 : decode cJ13_bitCount_95d88 4 = .ok (.ldc2_w 314, 3) := by decide +kernel
theorem dJ13_bitCount_95d88_7 : decode cJ13_bitCount_95d88 7 = .ok (.land, 1) := by decide +kernel
theorem dJ13_bitCount_95d88_8 : decode cJ13_bitCount_95d88 8 = .ok (.lsub, 1) := by decide +kernel
theorem dJ13_bitCount_95d88_9 : decode cJ13_bitCount_95d88 9 = .ok (.lstore_n 0, 1) := by decide +kernel
theorem dJ13_bitCount_95d88_10 : decode cJ13_bitCount_95d88 10 = .ok (.lload_n 0, 1) := by decide +kernel
theorem dJ13_bitCount_95d88_11 : decode cJ13_bitCount_95d88 11 = .ok (.ldc2_w 316, 3) := by decide +kernel
theorem dJ13_bitCount_95d88_14 : decode cJ13_bitCount_95d88 14 = .ok (.land, 1) := by decide +kernel
theorem dJ13_bitCount_95d88_15 : decode cJ13_bitCount_95d88 15 = .ok (.lload_n 0, 1) := by decide +kernel
theorem dJ13_bitCount_95d88_16 : decode cJ13_bitCount_95d88 16 = .ok (.iconst 2, 1) := by decide +kernel
theorem dJ13_bitCount_95d88_17 : decode cJ13_bitCount_95d88 17 = .ok (.lushr, 1) := by decide +kernel
theorem dJ13_bitCount_95d88_18 : decode cJ13_bitCount_95d88 18 = .ok (.ldc2_w 316, 3) := by decide +kernel
theorem dJ13_bitCount_95d88_21 : decode cJ13_bitCount_95d88 21 = .ok (.land, 1) := by decide +kernel
theorem dJ13_bitCount_95d88_22 : decode cJ13_bitCount_95d88 22 = .ok (.ladd, 1) := by decide +kernel
theorem dJ13_bitCount_95d88_23 : decode cJ13_bitCount_95d88 23 = .ok (.lstore_n 0, 1) := by decide +kernel
theorem dJ13_bitCount_95d88_24 : decode cJ13_bitCount_95d88 24 = .ok (.lload_n 0, 1) := by decide +kernel
theorem dJ13_bitCount_95d88_25 : decode cJ13_bitCount_95d88 25 = .ok (.lload_n 0, 1) := by decide +kernel
theorem dJ13_bitCount_95d88_26 : decode cJ13_bitCount_95d88 26 = .ok (.iconst 4, 1) := by decide +kernel
theorem dJ13_bitCount_95d88_27 : decode cJ13_bitCount_95d88 27 = .ok (.lushr, 1) := by decide +kernel
theorem dJ13_bitCount_95d88_28 : decode cJ13_bitCount_95d88 28 = .ok (.ladd, 1) := by decide +kernel
theorem dJ13_bitCount_95d88_29 : decode cJ13_bitCount_95d88 29 = .ok (.ldc2_w 318, 3) := by decide +kernel
theorem dJ13_bitCount_95d88_32 : decode cJ13_bitCount_95d88 32 = .ok (.land, 1) := by decide +kernel
theorem dJ13_bitCount_95d88_33 : decode cJ13_bitCount_95d88 33 = .ok (.lstore_n 0, 1) := by decide +kernel
theorem dJ13_bitCount_95d88_34 : decode cJ13_bitCount_95d88 34 = .ok (.lload_n 0, 1) := by decide +kernel
theorem dJ13_bitCount_95d88_35 : decode cJ13_bitCount_95d88 35 = .ok (.lload_n 0, 1) := by decide +kernel
theorem dJ13_bitCount_95d88_36 : decode cJ13_bitCount_95d88 36 = .ok (.bipush 8, 2) := by decide +kernel
theorem dJ13_bitCount_95d88_38 : decode cJ13_bitCount_95d88 38 = .ok (.lushr, 1) := by decide +kernel
theorem dJ13_bitCount_95d88_39 : decode cJ13_bitCount_95d88 39 = .ok (.ladd, 1) := by decide +kernel
theorem dJ13_bitCount_95d88_40 : decode cJ13_bitCount_95d88 40 = .ok (.lstore_n 0, 1) := by decide +kernel
theorem dJ13_bitCount_95d88_41 : decode cJ13_bitCount_95d88 41 = .ok (.lload_n 0, 1) := by decide +kernel
theorem dJ13_bitCount_95d88_42 : decode cJ13_bitCount_95d88 42 = .ok (.lload_n 0, 1) := by decide +kernel
theorem dJ13_bitCount_95d88_43 : decode cJ13_bitCount_95d88 43 = .ok (.bipush 16, 2) := by decide +kernel
theorem dJ13_bitCount_95d88_45 : decode cJ13_bitCount_95d88 45 = .ok (.lushr, 1) := by decide +kernel
theorem dJ13_bitCount_95d88_46 : decode cJ13_bitCount_95d88 46 = .ok (.ladd, 1) := by decide +kernel
theorem dJ13_bitCount_95d88_47 : decode cJ13_bitCount_95d88 47 = .ok (.lstore_n 0, 1) := by decide +kernel
theorem dJ13_bitCount_95d88_48 : decode cJ13_bitCount_95d88 48 = .ok (.lload_n 0, 1) := by decide +kernel
theorem dJ13_bitCount_95d88_49 : decode cJ13_bitCount_95d88 49 = .ok (.lload_n 0, 1) := by decide +kernel
theorem dJ13_bitCount_95d88_50 : decode cJ13_bitCount_95d88 50 = .ok (.bipush 32, 2) := by decide +kernel
theorem dJ13_bitCount_95d88_52 : decode cJ13_bitCount_95d88 52 = .ok (.lushr, 1) := by decide +kernel
theorem dJ13_bitCount_95d88_53 : decode cJ13_bitCount_95d88 53 = .ok (.ladd, 1) := by decide +kernel
theorem dJ13_bitCount_95d88_54 : decode cJ13_bitCount_95d88 54 = .ok (.lstore_n 0, 1) := by decide +kernel
theorem dJ13_bitCount_95d88_55 : decode cJ13_bitCount_95d88 55 = .ok (.lload_n 0, 1) := by decide +kernel
theorem dJ13_bitCount_95d88_56 : decode cJ13_bitCount_95d88 56 = .ok (.l2i, 1) := by decide +kernel
theorem dJ13_bitCount_95d88_57 : decode cJ13_bitCount_95d88 57 = .ok (.bipush 127, 2) := by decide +kernel
theorem dJ13_bitCount_95d88_59 : decode cJ13_bitCount_95d88 59 = .ok (.iand, 1) := by decide +kernel
theorem dJ13_bitCount_95d88_60 : decode cJ13_bitCount_95d88 60 = .ok (.ireturn, 1) := by decide +kernel
theorem dJ9_max_7cf53_0 : decode cJ9_max_7cf53 0 = .ok (.iload_n 0, 1) := by decide +kernel
theorem dJ9_max_7cf53_1 : decode cJ9_max_7cf53 1 = .ok (.iload_n 1, 1) := by decide +kernel
theorem dJ9_max_7cf53_2 : decode cJ9_max_7cf53 2 = .ok (.if_icmp .lt 7, 3) := by decide +kernel
theorem dJ9_max_7cf53_5 : decode cJ9_max_7cf53 5 = .ok (.iload_n 0, 1) := by decide +kernel
theorem dJ9_max_7cf53_6 : decode cJ9_max_7cf53 6 = .ok (.goto 4, 3) := by decide +kernel
theorem dJ9_max_7cf53_9 : decode cJ9_max_7cf53 9 = .ok (.iload_n 1, 1) := by decide +kernel
theorem dJ9_max_7cf53_10 : decode cJ9_max_7cf53 10 = .ok (.ireturn, 1) := by decide +kernel
theorem dJ9_min_7cf53_0 : decode cJ9_min_7cf53 0 = .ok (.iload_n 0, 1) := by decide +kernel
theorem dJ9_min_7cf53_1 : decode cJ9_min_7cf53 1 = .ok (.iload_n 1, 1) := by decide +kernel
theorem dJ9_min_7cf53_2 : decode cJ9_min_7cf53 2 = .ok (.if_icmp .gt 7, 3) := by decide +kernel
theorem dJ9_min_7cf53_5 : decode cJ9_min_7cf53 5 = .ok (.iload_n 0, 1) := by decide +kernel
theorem dJ9_min_7cf53_6 : decode cJ9_min_7cf53 6 = .ok (.goto 4, 3) := by decide +kernel
theorem dJ9_min_7cf53_9 : decode cJ9_min_7cf53 9 = .ok (.iload_n 1, 1) := by decide +kernel
theorem dJ9_min_7cf53_10 : decode cJ9_min_7cf53 10 = .ok (.ireturn, 1) := by decide +kernel
theorem dL_cell_0 : decode cL_cell 0 = .ok (.iload_n 1, 1) := by decide +kernel
theorem dL_cell_1 : decode cL_cell 1 = .ok (.aload_n 0, 1) := by decide +kernel
theorem dL_cell_2 : decode cL_cell 2 = .ok (.arraylength, 1) := by decide +kernel
theorem dL_cell_3 : decode cL_cell 3 = .ok (.if_icmp .ge 9, 3) := by decide +kernel
theorem dL_cell_6 : decode cL_cell 6 = .ok (.aload_n 0, 1) := by decide +kernel
theorem dL_cell_7 : decode cL_cell 7 = .ok (.iload_n 1, 1) := by decide +kernel
theorem dL_cell_8 : decode cL_cell 8 = .ok (.iaload, 1) := by decide +kernel
theorem dL_cell_9 : decode cL_cell 9 = .ok (.goto 11, 3) := by decide +kernel
theorem dL_cell_12 : decode cL_cell 12 = .ok (.sipush 7919, 3) := by decide +kernel
theorem dL_cell_15 : decode cL_cell 15 = .ok (.iload_n 1, 1) := by decide +kernel
theorem dL_cell_16 : decode cL_cell 16 = .ok (.imul, 1) := by decide +kernel
theorem dL_cell_17 : decode cL_cell 17 = .ok (.bipush 13, 2) := by decide +kernel
theorem dL_cell_19 : decode cL_cell 19 = .ok (.iadd, 1) := by decide +kernel
theorem dL_cell_20 : decode cL_cell 20 = .ok (.ldc 7, 2) := by decide +kernel
theorem dL_cell_22 : decode cL_cell 22 = .ok (.iand, 1) := by decide +kernel
theorem dL_cell_23 : decode cL_cell 23 = .ok (.ireturn, 1) := by decide +kernel
theorem dL_put_0 : decode cL_put 0 = .ok (.aload_n 0, 1) := by decide +kernel
theorem dL_put_1 : decode cL_put 1 = .ok (.iload_n 1, 1) := by decide +kernel
theorem dL_put_2 : decode cL_put 2 = .ok (.i2l, 1) := by decide +kernel
theorem dL_put_3 : decode cL_put 3 = .ok (.invokevirtual 8, 3) := by decide +kernel
theorem dL_put_6 : decode cL_put 6 = .ok (.ifCond .le 7, 3) := by decide +kernel
theorem dL_put_9 : decode cL_put 9 = .ok (.iconst 1, 1) := by decide +kernel
theorem dL_put_10 : decode cL_put 10 = .ok (.goto 4, 3) := by decide +kernel
theorem dL_put_13 : decode cL_put 13 = .ok (.iconst 0, 1) := by decide +kernel
theorem dL_put_14 : decode cL_put 14 = .ok (.ireturn, 1) := by decide +kernel
theorem dL_key_0 : decode cL_key 0 = .ok (.iconst 1, 1) := by decide +kernel
theorem dL_key_1 : decode cL_key 1 = .ok (.iload_n 0, 1) := by decide +kernel
theorem dL_key_2 : decode cL_key 2 = .ok (.iconst 4, 1) := by decide +kernel
theorem dL_key_3 : decode cL_key 3 = .ok (.irem, 1) := by decide +kernel
theorem dL_key_4 : decode cL_key 4 = .ok (.iadd, 1) := by decide +kernel
theorem dL_key_5 : decode cL_key 5 = .ok (.istore_n 1, 1) := by decide +kernel
theorem dL_key_6 : decode cL_key 6 = .ok (.iconst 1, 1) := by decide +kernel
theorem dL_key_7 : decode cL_key 7 = .ok (.iload_n 1, 1) := by decide +kernel
theorem dL_key_8 : decode cL_key 8 = .ok (.iload_n 0, 1) := by decide +kernel
theorem dL_key_9 : decode cL_key 9 = .ok (.iconst 4, 1) := by decide +kernel
theorem dL_key_10 : decode cL_key 10 = .ok (.idiv, 1) := by decide +kernel
theorem dL_key_11 : decode cL_key 11 = .ok (.iconst 3, 1) := by decide +kernel
theorem dL_key_12 : decode cL_key 12 = .ok (.irem, 1) := by decide +kernel
theorem dL_key_13 : decode cL_key 13 = .ok (.iadd, 1) := by decide +kernel
theorem dL_key_14 : decode cL_key 14 = .ok (.iconst 4, 1) := by decide +kernel
theorem dL_key_15 : decode cL_key 15 = .ok (.irem, 1) := by decide +kernel
theorem dL_key_16 : decode cL_key 16 = .ok (.iadd, 1) := by decide +kernel
theorem dL_key_17 : decode cL_key 17 = .ok (.istore_n 2, 1) := by decide +kernel
theorem dL_key_18 : decode cL_key 18 = .ok (.bipush 10, 2) := by decide +kernel
theorem dL_key_20 : decode cL_key 20 = .ok (.iload_n 1, 1) := by decide +kernel
theorem dL_key_21 : decode cL_key 21 = .ok (.isub, 1) := by decide +kernel
theorem dL_key_22 : decode cL_key 22 = .ok (.iload_n 2, 1) := by decide +kernel
theorem dL_key_23 : decode cL_key 23 = .ok (.isub, 1) := by decide +kernel
theorem dL_key_24 : decode cL_key 24 = .ok (.istore_n 3, 1) := by decide +kernel
theorem dL_key_25 : decode cL_key 25 = .ok (.iconst 1, 1) := by decide +kernel
theorem dL_key_26 : decode cL_key 26 = .ok (.istore 4, 2) := by decide +kernel
theorem dL_key_28 : decode cL_key 28 = .ok (.iload 4, 2) := by decide +kernel
theorem dL_key_30 : decode cL_key 30 = .ok (.iload_n 1, 1) := by decide +kernel
theorem dL_key_31 : decode cL_key 31 = .ok (.if_icmp .eq 9, 3) := by decide +kernel
theorem dL_key_34 : decode cL_key 34 = .ok (.iload 4, 2) := by decide +kernel
theorem dL_key_36 : decode cL_key 36 = .ok (.iload_n 2, 1) := by decide +kernel
theorem dL_key_37 : decode cL_key 37 = .ok (.if_icmp .ne 9, 3) := by decide +kernel
theorem dL_key_40 : decode cL_key 40 = .ok (.iinc 4 1, 3) := by decide +kernel
theorem dL_key_43 : decode cL_key 43 = .ok (.goto (-15), 3) := by decide +kernel
theorem dL_key_46 : decode cL_key 46 = .ok (.iload_n 0, 1) := by decide +kernel
theorem dL_key_47 : decode cL_key 47 = .ok (.bipush 64, 2) := by decide +kernel
theorem dL_key_49 : decode cL_key 49 = .ok (.idiv, 1) := by decide +kernel
theorem dL_key_50 : decode cL_key 50 = .ok (.iconst 2, 1) := by decide +kernel
theorem dL_key_51 : decode cL_key 51 = .ok (.irem, 1) := by decide +kernel
theorem dL_key_52 : decode cL_key 52 = .ok (.ifCond .ne 8, 3) := by decide +kernel
theorem dL_key_55 : decode cL_key 55 = .ok (.iload 4, 2) := by decide +kernel
theorem dL_key_57 : decode cL_key 57 = .ok (.goto 7, 3) := by decide +kernel
theorem dL_key_60 : decode cL_key 60 = .ok (.iload_n 3, 1) := by decide +kernel
theorem dL_key_61 : decode cL_key 61 = .ok (.iload 4, 2) := by decide +kernel
theorem dL_key_63 : decode cL_key 63 = .ok (.isub, 1) := by decide +kernel
theorem dL_key_64 : decode cL_key 64 = .ok (.istore 4, 2) := by decide +kernel
theorem dL_key_66 : decode cL_key 66 = .ok (.iload_n 0, 1) := by decide +kernel
theorem dL_key_67 : decode cL_key 67 = .ok (.bipush 16, 2) := by decide +kernel
theorem dL_key_69 : decode cL_key 69 = .ok (.idiv, 1) := by decide +kernel
theorem dL_key_70 : decode cL_key 70 = .ok (.iconst 4, 1) := by decide +kernel
theorem dL_key_71 : decode cL_key 71 = .ok (.irem, 1) := by decide +kernel
theorem dL_key_72 : decode cL_key 72 = .ok (.ifCond .ne 7, 3) := by decide +kernel
theorem dL_key_75 : decode cL_key 75 = .ok (.iload_n 1, 1) := by decide +kernel
theorem dL_key_76 : decode cL_key 76 = .ok (.goto 32, 3) := by decide +kernel
theorem dL_key_79 : decode cL_key 79 = .ok (.iload_n 0, 1) := by decide +kernel
theorem dL_key_80 : decode cL_key 80 = .ok (.bipush 16, 2) := by decide +kernel
theorem dL_key_82 : decode cL_key 82 = .ok (.idiv, 1) := by decide +kernel
theorem dL_key_83 : decode cL_key 83 = .ok (.iconst 4, 1) := by decide +kernel
theorem dL_key_84 : decode cL_key 84 = .ok (.irem, 1) := by decide +kernel
theorem dL_key_85 : decode cL_key 85 = .ok (.iconst 1, 1) := by decide +kernel
theorem dL_key_86 : decode cL_key 86 = .ok (.if_icmp .ne 17, 3) := by decide +kernel
theorem dL_key_89 : decode cL_key 89 = .ok (.bipush 25, 2) := by decide +kernel
theorem dL_key_91 : decode cL_key 91 = .ok (.iload_n 1, 1) := by decide +kernel
theorem dL_key_92 : decode cL_key 92 = .ok (.imul, 1) := by decide +kernel
theorem dL_key_93 : decode cL_key 93 = .ok (.iconst 5, 1) := by decide +kernel
theorem dL_key_94 : decode cL_key 94 = .ok (.iload_n 2, 1) := by decide +kernel
theorem dL_key_95 : decode cL_key 95 = .ok (.imul, 1) := by decide +kernel
theorem dL_key_96 : decode cL_key 96 = .ok (.iadd, 1) := by decide +kernel
theorem dL_key_97 : decode cL_key 97 = .ok (.iload 4, 2) := by decide +kernel
theorem dL_key_99 : decode cL_key 99 = .ok (.iadd, 1) := by decide +kernel
theorem dL_key_100 : decode cL_key 100 = .ok (.goto 8, 3) := by decide +kernel
theorem dL_key_103 : decode cL_key 103 = .ok (.iconst 5, 1) := by decide +kernel
theorem dL_key_104 : decode cL_key 104 = .ok (.iload_n 1, 1) := by decide +kernel
theorem dL_key_105 : decode cL_key 105 = .ok (.imul, 1) := by decide +kernel
theorem dL_key_106 : decode cL_key 106 = .ok (.iload_n 2, 1) := by decide +kernel
theorem dL_key_107 : decode cL_key 107 = .ok (.iadd, 1) := by decide +kernel
theorem dL_key_108 : decode cL_key 108 = .ok (.ireturn, 1) := by decide +kernel
theorem dL_ask_0 : decode cL_ask 0 = .ok (.iconst 0, 1) := by decide +kernel
theorem dL_ask_1 : decode cL_ask 1 = .ok (.istore 5, 2) := by decide +kernel
theorem dL_ask_3 : decode cL_ask 3 = .ok (.iload 5, 2) := by decide +kernel
theorem dL_ask_5 : decode cL_ask 5 = .ok (.iconst 4, 1) := by decide +kernel
theorem dL_ask_6 : decode cL_ask 6 = .ok (.if_icmp .ge 34, 3) := by decide +kernel
theorem dL_ask_9 : decode cL_ask 9 = .ok (.aload 4, 2) := by decide +kernel
theorem dL_ask_11 : decode cL_ask 11 = .ok (.bipush 8, 2) := by decide +kernel
theorem dL_ask_13 : decode cL_ask 13 = .ok (.iload_n 3, 1) := by decide +kernel
theorem dL_ask_14 : decode cL_ask 14 = .ok (.imul, 1) := by decide +kernel
theorem dL_ask_15 : decode cL_ask 15 = .ok (.iload 5, 2) := by decide +kernel
theorem dL_ask_17 : decode cL_ask 17 = .ok (.iadd, 1) := by decide +kernel
theorem dL_ask_18 : decode cL_ask 18 = .ok (.iconst 0, 1) := by decide +kernel
theorem dL_ask_19 : decode cL_ask 19 = .ok (.iastore, 1) := by decide +kernel
theorem dL_ask_20 : decode cL_ask 20 = .ok (.aload 4, 2) := by decide +kernel
theorem dL_ask_22 : decode cL_ask 22 = .ok (.bipush 8, 2) := by decide +kernel
theorem dL_ask_24 : decode cL_ask 24 = .ok (.iload_n 3, 1) := by decide +kernel
theorem dL_ask_25 : decode cL_ask 25 = .ok (.imul, 1) := by decide +kernel
theorem dL_ask_26 : decode cL_ask 26 = .ok (.iconst 4, 1) := by decide +kernel
theorem dL_ask_27 : decode cL_ask 27 = .ok (.iadd, 1) := by decide +kernel
theorem dL_ask_28 : decode cL_ask 28 = .ok (.iload 5, 2) := by decide +kernel
theorem dL_ask_30 : decode cL_ask 30 = .ok (.iadd, 1) := by decide +kernel
theorem dL_ask_31 : decode cL_ask 31 = .ok (.bipush 99, 2) := by decide +kernel
theorem dL_ask_33 : decode cL_ask 33 = .ok (.iastore, 1) := by decide +kernel
theorem dL_ask_34 : decode cL_ask 34 = .ok (.iinc 5 1, 3) := by decide +kernel
theorem dL_ask_37 : decode cL_ask 37 = .ok (.goto (-34), 3) := by decide +kernel
theorem dL_ask_40 : decode cL_ask 40 = .ok (.iload_n 1, 1) := by decide +kernel
theorem dL_ask_41 : decode cL_ask 41 = .ok (.iconst 4, 1) := by decide +kernel
theorem dL_ask_42 : decode cL_ask 42 = .ok (.irem, 1) := by decide +kernel
theorem dL_ask_43 : decode cL_ask 43 = .ok (.istore 5, 2) := by decide +kernel
theorem dL_ask_45 : decode cL_ask 45 = .ok (.iconst 1, 1) := by decide +kernel
theorem dL_ask_46 : decode cL_ask 46 = .ok (.istore 6, 2) := by decide +kernel
theorem dL_ask_48 : decode cL_ask 48 = .ok (.iconst 0, 1) := by decide +kernel
theorem dL_ask_49 : decode cL_ask 49 = .ok (.istore 7, 2) := by decide +kernel
theorem dL_ask_51 : decode cL_ask 51 = .ok (.iload 7, 2) := by decide +kernel
theorem dL_ask_53 : decode cL_ask 53 = .ok (.iload 5, 2) := by decide +kernel
theorem dL_ask_55 : decode cL_ask 55 = .ok (.if_icmp .ge 296, 3) := by decide +kernel
theorem dL_ask_58 : decode cL_ask 58 = .ok (.iload_n 1, 1) := by decide +kernel
theorem dL_ask_59 : decode cL_ask 59 = .ok (.iconst 2, 1) := by decide +kernel
theorem dL_ask_60 : decode cL_ask 60 = .ok (.iconst 2, 1) := by decide +kernel
theorem dL_ask_61 : decode cL_ask 61 = .ok (.iload 7, 2) := by decide +kernel
theorem dL_ask_63 : decode cL_ask 63 = .ok (.imul, 1) := by decide +kernel
theorem dL_ask_64 : decode cL_ask 64 = .ok (.iadd, 1) := by decide +kernel
theorem dL_ask_65 : decode cL_ask 65 = .ok (.ishr, 1) := by decide +kernel
theorem dL_ask_66 : decode cL_ask 66 = .ok (.iconst 3, 1) := by decide +kernel
theorem dL_ask_67 : decode cL_ask 67 = .ok (.iand, 1) := by decide +kernel
theorem dL_ask_68 : decode cL_ask 68 = .ok (.istore 8, 2) := by decide +kernel
theorem dL_ask_70 : decode cL_ask 70 = .ok (.iload_n 1, 1) := by decide +kernel
theorem dL_ask_71 : decode cL_ask 71 = .ok (.sipush 512, 3) := by decide +kernel
theorem dL_ask_74 : decode cL_ask 74 = .ok (.idiv, 1) := by decide +kernel
theorem dL_ask_75 : decode cL_ask 75 = .ok (.iconst 3, 1) := by decide +kernel
theorem dL_ask_76 : decode cL_ask 76 = .ok (.irem, 1) := by decide +kernel
theorem dL_ask_77 : decode cL_ask 77 = .ok (.istore 9, 2) := by decide +kernel
theorem dL_ask_79 : decode cL_ask 79 = .ok (.iload 9, 2) := by decide +kernel
theorem dL_ask_81 : decode cL_ask 81 = .ok (.iload 7, 2) := by decide +kernel
theorem dL_ask_83 : decode cL_ask 83 = .ok (.iadd, 1) := by decide +kernel
theorem dL_ask_84 : decode cL_ask 84 = .ok (.iconst 3, 1) := by decide +kernel
theorem dL_ask_85 : decode cL_ask 85 = .ok (.irem, 1) := by decide +kernel
theorem dL_ask_86 : decode cL_ask 86 = .ok (.istore 9, 2) := by decide +kernel
theorem dL_ask_88 : decode cL_ask 88 = .ok (.iload_n 2, 1) := by decide +kernel
theorem dL_ask_89 : decode cL_ask 89 = .ok (.iconst 5, 1) := by decide +kernel
theorem dL_ask_90 : decode cL_ask 90 = .ok (.iload 7, 2) := by decide +kernel
theorem dL_ask_92 : decode cL_ask 92 = .ok (.imul, 1) := by decide +kernel
theorem dL_ask_93 : decode cL_ask 93 = .ok (.ishr, 1) := by decide +kernel
theorem dL_ask_94 : decode cL_ask 94 = .ok (.bipush 23, 2) := by decide +kernel
theorem dL_ask_96 : decode cL_ask 96 = .ok (.irem, 1) := by decide +kernel
theorem dL_ask_97 : decode cL_ask 97 = .ok (.istore 10, 2) := by decide +kernel
theorem dL_ask_99 : decode cL_ask 99 = .ok (.iload 6, 2) := by decide +kernel
theorem dL_ask_101 : decode cL_ask 101 = .ok (.ifCond .eq 100, 3) := by decide +kernel
theorem dL_ask_104 : decode cL_ask 104 = .ok (.iload 7, 2) := by decide +kernel
theorem dL_ask_106 : decode cL_ask 106 = .ok (.ifCond .eq 12, 3) := by decide +kernel
theorem dL_ask_109 : decode cL_ask 109 = .ok (.aload_n 0, 1) := by decide +kernel
theorem dL_ask_110 : decode cL_ask 110 = .ok (.bipush 38, 2) := by decide +kernel
theorem dL_ask_112 : decode cL_ask 112 = .ok (.invokestatic 20, 3) := by decide +kernel
theorem dL_ask_115 : decode cL_ask 115 = .ok (.ifCond .eq 86, 3) := by decide +kernel
theorem dL_ask_118 : decode cL_ask 118 = .ok (.aload_n 0, 1) := by decide +kernel
theorem dL_ask_119 : decode cL_ask 119 = .ok (.bipush 97, 2) := by decide +kernel
theorem dL_ask_121 : decode cL_ask 121 = .ok (.iload 8, 2) := by decide +kernel
theorem dL_ask_123 : decode cL_ask 123 = .ok (.iadd, 1) := by decide +kernel
theorem dL_ask_124 : decode cL_ask 124 = .ok (.invokestatic 20, 3) := by decide +kernel
theorem dL_ask_127 : decode cL_ask 127 = .ok (.ifCond .eq 74, 3) := by decide +kernel
theorem dL_ask_130 : decode cL_ask 130 = .ok (.aload_n 0, 1) := by decide +kernel
theorem dL_ask_131 : decode cL_ask 131 = .ok (.iload 9, 2) := by decide +kernel
theorem dL_ask_133 : decode cL_ask 133 = .ok (.ifCond .ne 8, 3) := by decide +kernel
theorem dL_ask_136 : decode cL_ask 136 = .ok (.bipush 61, 2) := by decide +kernel
theorem dL_ask_138 : decode cL_ask 138 = .ok (.goto 16, 3) := by decide +kernel
theorem dL_ask_141 : decode cL_ask 141 = .ok (.iload 9, 2) := by decide +kernel
theorem dL_ask_143 : decode cL_ask 143 = .ok (.iconst 1, 1) := by decide +kernel
theorem dL_ask_144 : decode cL_ask 144 = .ok (.if_icmp .ne 8, 3) := by decide +kernel
theorem dL_ask_147 : decode cL_ask 147 = .ok (.bipush 60, 2) := by decide +kernel
theorem dL_ask_149 : decode cL_ask 149 = .ok (.goto 5, 3) := by decide +kernel
theorem dL_ask_152 : decode cL_ask 152 = .ok (.bipush 62, 2) := by decide +kernel
theorem dL_ask_154 : decode cL_ask 154 = .ok (.invokestatic 20, 3) := by decide +kernel
theorem dL_ask_157 : decode cL_ask 157 = .ok (.ifCond .eq 44, 3) := by decide +kernel
theorem dL_ask_160 : decode cL_ask 160 = .ok (.iload 10, 2) := by decide +kernel
theorem dL_ask_162 : decode cL_ask 162 = .ok (.bipush 10, 2) := by decide +kernel
theorem dL_ask_164 : decode cL_ask 164 = .ok (.if_icmp .lt 18, 3) := by decide +kernel
theorem dL_ask_167 : decode cL_ask 167 = .ok (.aload_n 0, 1) := by decide +kernel
theorem dL_ask_168 : decode cL_ask 168 = .ok (.bipush 48, 2) := by decide +kernel
theorem dL_ask_170 : decode cL_ask 170 = .ok (.iload 10, 2) := by decide +kernel
theorem dL_ask_172 : decode cL_ask 172 = .ok (.bipush 10, 2) := by decide +kernel
theorem dL_ask_174 : decode cL_ask 174 = .ok (.idiv, 1) := by decide +kernel
theorem dL_ask_175 : decode cL_ask 175 = .ok (.iadd, 1) := by decide +kernel
theorem dL_ask_176 : decode cL_ask 176 = .ok (.invokestatic 20, 3) := by decide +kernel
theorem dL_ask_179 : decode cL_ask 179 = .ok (.ifCond .eq 22, 3) := by decide +kernel
theorem dL_ask_182 : decode cL_ask 182 = .ok (.aload_n 0, 1) := by decide +kernel
theorem dL_ask_183 : decode cL_ask 183 = .ok (.bipush 48, 2) := by decide +kernel
theorem dL_ask_185 : decode cL_ask 185 = .ok (.iload 10, 2) := by decide +kernel
theorem dL_ask_187 : decode cL_ask 187 = .ok (.bipush 10, 2) := by decide +kernel
theorem dL_ask_189 : decode cL_ask 189 = .ok (.irem, 1) := by decide +kernel
theorem dL_ask_190 : decode cL_ask 190 = .ok (.iadd, 1) := by decide +kernel
theorem dL_ask_191 : decode cL_ask 191 = .ok (.invokestatic 20, 3) := by decide +kernel
theorem dL_ask_194 : decode cL_ask 194 = .ok (.ifCond .eq 7, 3) := by decide +kernel
theorem dL_ask_197 : decode cL_ask 197 = .ok (.iconst 1, 1) := by decide +kernel
theorem dL_ask_198 : decode cL_ask 198 = .ok (.goto 4, 3) := by decide +kernel
theorem dL_ask_201 : decode cL_ask 201 = .ok (.iconst 0, 1) := by decide +kernel
theorem dL_ask_202 : decode cL_ask 202 = .ok (.istore 6, 2) := by decide +kernel
theorem dL_ask_204 : decode cL_ask 204 = .ok (.iload 9, 2) := by decide +kernel
theorem dL_ask_206 : decode cL_ask 206 = .ok (.iconst 1, 1) := by decide +kernel
theorem dL_ask_207 : decode cL_ask 207 = .ok (.if_icmp .ne 7, 3) := by decide +kernel
theorem dL_ask_210 : decode cL_ask 210 = .ok (.iconst 0, 1) := by decide +kernel
theorem dL_ask_211 : decode cL_ask 211 = .ok (.goto 18, 3) := by decide +kernel
theorem dL_ask_214 : decode cL_ask 214 = .ok (.iload 9, 2) := by decide +kernel
theorem dL_ask_216 : decode cL_ask 216 = .ok (.iconst 2, 1) := by decide +kernel
theorem dL_ask_217 : decode cL_ask 217 = .ok (.if_icmp .ne 10, 3) := by decide +kernel
theorem dL_ask_220 : decode cL_ask 220 = .ok (.iload 10, 2) := by decide +kernel
theorem dL_ask_222 : decode cL_ask 222 = .ok (.iconst 1, 1) := by decide +kernel
theorem dL_ask_223 : decode cL_ask 223 = .ok (.iadd, 1) := by decide +kernel
theorem dL_ask_224 : decode cL_ask 224 = .ok (.goto 5, 3) := by decide +kernel
theorem dL_ask_227 : decode cL_ask 227 = .ok (.iload 10, 2) := by decide +kernel
theorem dL_ask_229 : decode cL_ask 229 = .ok (.istore 11, 2) := by decide +kernel
theorem dL_ask_231 : decode cL_ask 231 = .ok (.iload 9, 2) := by decide +kernel
theorem dL_ask_233 : decode cL_ask 233 = .ok (.iconst 2, 1) := by decide +kernel
theorem dL_ask_234 : decode cL_ask 234 = .ok (.if_icmp .ne 8, 3) := by decide +kernel
theorem dL_ask_237 : decode cL_ask 237 = .ok (.bipush 99, 2) := by decide +kernel
theorem dL_ask_239 : decode cL_ask 239 = .ok (.goto 18, 3) := by decide +kernel
theorem dL_ask_242 : decode cL_ask 242 = .ok (.iload 9, 2) := by decide +kernel
theorem dL_ask_244 : decode cL_ask 244 = .ok (.iconst 1, 1) := by decide +kernel
theorem dL_ask_245 : decode cL_ask 245 = .ok (.if_icmp .ne 10, 3) := by decide +kernel
theorem dL_ask_248 : decode cL_ask 248 = .ok (.iload 10, 2) := by decide +kernel
theorem dL_ask_250 : decode cL_ask 250 = .ok (.iconst 1, 1) := by decide +kernel
theorem dL_ask_251 : decode cL_ask 251 = .ok (.isub, 1) := by decide +kernel
theorem dL_ask_252 : decode cL_ask 252 = .ok (.goto 5, 3) := by decide +kernel
theorem dL_ask_255 : decode cL_ask 255 = .ok (.iload 10, 2) := by decide +kernel
theorem dL_ask_257 : decode cL_ask 257 = .ok (.istore 12, 2) := by decide +kernel
theorem dL_ask_259 : decode cL_ask 259 = .ok (.aload 4, 2) := by decide +kernel
theorem dL_ask_261 : decode cL_ask 261 = .ok (.bipush 8, 2) := by decide +kernel
theorem dL_ask_263 : decode cL_ask 263 = .ok (.iload_n 3, 1) := by decide +kernel
theorem dL_ask_264 : decode cL_ask 264 = .ok (.imul, 1) := by decide +kernel
theorem dL_ask_265 : decode cL_ask 265 = .ok (.iload 8, 2) := by decide +kernel
theorem dL_ask_267 : decode cL_ask 267 = .ok (.iadd, 1) := by decide +kernel
theorem dL_ask_268 : decode cL_ask 268 = .ok (.iload 11, 2) := by decide +kernel
theorem dL_ask_270 : decode cL_ask 270 = .ok (.aload 4, 2) := by decide +kernel
theorem dL_ask_272 : decode cL_ask 272 = .ok (.bipush 8, 2) := by decide +kernel
theorem dL_ask_274 : decode cL_ask 274 = .ok (.iload_n 3, 1) := by decide +kernel
theorem dL_ask_275 : decode cL_ask 275 = .ok (.imul, 1) := by decide +kernel
theorem dL_ask_276 : decode cL_ask 276 = .ok (.iload 8, 2) := by decide +kernel
theorem dL_ask_278 : decode cL_ask 278 = .ok (.iadd, 1) := by decide +kernel
theorem dL_ask_279 : decode cL_ask 279 = .ok (.iaload, 1) := by decide +kernel
theorem dL_ask_280 : decode cL_ask 280 = .ok (.if_icmp .le 8, 3) := by decide +kernel
theorem dL_ask_283 : decode cL_ask 283 = .ok (.iload 11, 2) := by decide +kernel
theorem dL_ask_285 : decode cL_ask 285 = .ok (.goto 13, 3) := by decide +kernel
theorem dL_ask_288 : decode cL_ask 288 = .ok (.aload 4, 2) := by decide +kernel
theorem dL_ask_290 : decode cL_ask 290 = .ok (.bipush 8, 2) := by decide +kernel
theorem dL_ask_292 : decode cL_ask 292 = .ok (.iload_n 3, 1) := by decide +kernel
theorem dL_ask_293 : decode cL_ask 293 = .ok (.imul, 1) := by decide +kernel
theorem dL_ask_294 : decode cL_ask 294 = .ok (.iload 8, 2) := by decide +kernel
theorem dL_ask_296 : decode cL_ask 296 = .ok (.iadd, 1) := by decide +kernel
theorem dL_ask_297 : decode cL_ask 297 = .ok (.iaload, 1) := by decide +kernel
theorem dL_ask_298 : decode cL_ask 298 = .ok (.iastore, 1) := by decide +kernel
theorem dL_ask_299 : decode cL_ask 299 = .ok (.aload 4, 2) := by decide +kernel
theorem dL_ask_301 : decode cL_ask 301 = .ok (.bipush 8, 2) := by decide +kernel
theorem dL_ask_303 : decode cL_ask 303 = .ok (.iload_n 3, 1) := by decide +kernel
theorem dL_ask_304 : decode cL_ask 304 = .ok (.imul, 1) := by decide +kernel
theorem dL_ask_305 : decode cL_ask 305 = .ok (.iconst 4, 1) := by decide +kernel
theorem dL_ask_306 : decode cL_ask 306 = .ok (.iadd, 1) := by decide +kernel
theorem dL_ask_307 : decode cL_ask 307 = .ok (.iload 8, 2) := by decide +kernel
theorem dL_ask_309 : decode cL_ask 309 = .ok (.iadd, 1) := by decide +kernel
theorem dL_ask_310 : decode cL_ask 310 = .ok (.iload 12, 2) := by decide +kernel
theorem dL_ask_312 : decode cL_ask 312 = .ok (.aload 4, 2) := by decide +kernel
theorem dL_ask_314 : decode cL_ask 314 = .ok (.bipush 8, 2) := by decide +kernel
theorem dL_ask_316 : decode cL_ask 316 = .ok (.iload_n 3, 1) := by decide +kernel
theorem dL_ask_317 : decode cL_ask 317 = .ok (.imul, 1) := by decide +kernel
theorem dL_ask_318 : decode cL_ask 318 = .ok (.iconst 4, 1) := by decide +kernel
theorem dL_ask_319 : decode cL_ask 319 = .ok (.iadd, 1) := by decide +kernel
theorem dL_ask_320 : decode cL_ask 320 = .ok (.iload 8, 2) := by decide +kernel
theorem dL_ask_322 : decode cL_ask 322 = .ok (.iadd, 1) := by decide +kernel
theorem dL_ask_323 : decode cL_ask 323 = .ok (.iaload, 1) := by decide +kernel
theorem dL_ask_324 : decode cL_ask 324 = .ok (.if_icmp .ge 8, 3) := by decide +kernel
theorem dL_ask_327 : decode cL_ask 327 = .ok (.iload 12, 2) := by decide +kernel
theorem dL_ask_329 : decode cL_ask 329 = .ok (.goto 15, 3) := by decide +kernel
theorem dL_ask_332 : decode cL_ask 332 = .ok (.aload 4, 2) := by decide +kernel
theorem dL_ask_334 : decode cL_ask 334 = .ok (.bipush 8, 2) := by decide +kernel
theorem dL_ask_336 : decode cL_ask 336 = .ok (.iload_n 3, 1) := by decide +kernel
theorem dL_ask_337 : decode cL_ask 337 = .ok (.imul, 1) := by decide +kernel
theorem dL_ask_338 : decode cL_ask 338 = .ok (.iconst 4, 1) := by decide +kernel
theorem dL_ask_339 : decode cL_ask 339 = .ok (.iadd, 1) := by decide +kernel
theorem dL_ask_340 : decode cL_ask 340 = .ok (.iload 8, 2) := by decide +kernel
theorem dL_ask_342 : decode cL_ask 342 = .ok (.iadd, 1) := by decide +kernel
theorem dL_ask_343 : decode cL_ask 343 = .ok (.iaload, 1) := by decide +kernel
theorem dL_ask_344 : decode cL_ask 344 = .ok (.iastore, 1) := by decide +kernel
theorem dL_ask_345 : decode cL_ask 345 = .ok (.iinc 7 1, 3) := by decide +kernel
theorem dL_ask_348 : decode cL_ask 348 = .ok (.goto (-297), 3) := by decide +kernel
theorem dL_ask_351 : decode cL_ask 351 = .ok (.iconst 0, 1) := by decide +kernel
theorem dL_ask_352 : decode cL_ask 352 = .ok (.istore 7, 2) := by decide +kernel
theorem dL_ask_354 : decode cL_ask 354 = .ok (.iload 7, 2) := by decide +kernel
theorem dL_ask_356 : decode cL_ask 356 = .ok (.iconst 4, 1) := by decide +kernel
theorem dL_ask_357 : decode cL_ask 357 = .ok (.if_icmp .ge 58, 3) := by decide +kernel
theorem dL_ask_360 : decode cL_ask 360 = .ok (.aload 4, 2) := by decide +kernel
theorem dL_ask_362 : decode cL_ask 362 = .ok (.bipush 8, 2) := by decide +kernel
theorem dL_ask_364 : decode cL_ask 364 = .ok (.iload_n 3, 1) := by decide +kernel
theorem dL_ask_365 : decode cL_ask 365 = .ok (.imul, 1) := by decide +kernel
theorem dL_ask_366 : decode cL_ask 366 = .ok (.iload 7, 2) := by decide +kernel
theorem dL_ask_368 : decode cL_ask 368 = .ok (.iadd, 1) := by decide +kernel
theorem dL_ask_369 : decode cL_ask 369 = .ok (.iaload, 1) := by decide +kernel
theorem dL_ask_370 : decode cL_ask 370 = .ok (.aload 4, 2) := by decide +kernel
theorem dL_ask_372 : decode cL_ask 372 = .ok (.bipush 8, 2) := by decide +kernel
theorem dL_ask_374 : decode cL_ask 374 = .ok (.iload_n 3, 1) := by decide +kernel
theorem dL_ask_375 : decode cL_ask 375 = .ok (.imul, 1) := by decide +kernel
theorem dL_ask_376 : decode cL_ask 376 = .ok (.iconst 4, 1) := by decide +kernel
theorem dL_ask_377 : decode cL_ask 377 = .ok (.iadd, 1) := by decide +kernel
theorem dL_ask_378 : decode cL_ask 378 = .ok (.iload 7, 2) := by decide +kernel
theorem dL_ask_380 : decode cL_ask 380 = .ok (.iadd, 1) := by decide +kernel
theorem dL_ask_381 : decode cL_ask 381 = .ok (.iaload, 1) := by decide +kernel
theorem dL_ask_382 : decode cL_ask 382 = .ok (.if_icmp .le 27, 3) := by decide +kernel
theorem dL_ask_385 : decode cL_ask 385 = .ok (.aload 4, 2) := by decide +kernel
theorem dL_ask_387 : decode cL_ask 387 = .ok (.bipush 8, 2) := by decide +kernel
theorem dL_ask_389 : decode cL_ask 389 = .ok (.iload_n 3, 1) := by decide +kernel
theorem dL_ask_390 : decode cL_ask 390 = .ok (.imul, 1) := by decide +kernel
theorem dL_ask_391 : decode cL_ask 391 = .ok (.iload 7, 2) := by decide +kernel
theorem dL_ask_393 : decode cL_ask 393 = .ok (.iadd, 1) := by decide +kernel
theorem dL_ask_394 : decode cL_ask 394 = .ok (.iconst 0, 1) := by decide +kernel
theorem dL_ask_395 : decode cL_ask 395 = .ok (.iastore, 1) := by decide +kernel
theorem dL_ask_396 : decode cL_ask 396 = .ok (.aload 4, 2) := by decide +kernel
theorem dL_ask_398 : decode cL_ask 398 = .ok (.bipush 8, 2) := by decide +kernel
theorem dL_ask_400 : decode cL_ask 400 = .ok (.iload_n 3, 1) := by decide +kernel
theorem dL_ask_401 : decode cL_ask 401 = .ok (.imul, 1) := by decide +kernel
theorem dL_ask_402 : decode cL_ask 402 = .ok (.iconst 4, 1) := by decide +kernel
theorem dL_ask_403 : decode cL_ask 403 = .ok (.iadd, 1) := by decide +kernel
theorem dL_ask_404 : decode cL_ask 404 = .ok (.iload 7, 2) := by decide +kernel
theorem dL_ask_406 : decode cL_ask 406 = .ok (.iadd, 1) := by decide +kernel
theorem dL_ask_407 : decode cL_ask 407 = .ok (.iconst (-1), 1) := by decide +kernel
theorem dL_ask_408 : decode cL_ask 408 = .ok (.iastore, 1) := by decide +kernel
theorem dL_ask_409 : decode cL_ask 409 = .ok (.iinc 7 1, 3) := by decide +kernel
theorem dL_ask_412 : decode cL_ask 412 = .ok (.goto (-58), 3) := by decide +kernel
theorem dL_ask_415 : decode cL_ask 415 = .ok (.iload_n 1, 1) := by decide +kernel
theorem dL_ask_416 : decode cL_ask 416 = .ok (.sipush 2048, 3) := by decide +kernel
theorem dL_ask_419 : decode cL_ask 419 = .ok (.idiv, 1) := by decide +kernel
theorem dL_ask_420 : decode cL_ask 420 = .ok (.iconst 4, 1) := by decide +kernel
theorem dL_ask_421 : decode cL_ask 421 = .ok (.irem, 1) := by decide +kernel
theorem dL_ask_422 : decode cL_ask 422 = .ok (.istore 7, 2) := by decide +kernel
theorem dL_ask_424 : decode cL_ask 424 = .ok (.iload_n 1, 1) := by decide +kernel
theorem dL_ask_425 : decode cL_ask 425 = .ok (.sipush 8192, 3) := by decide +kernel
theorem dL_ask_428 : decode cL_ask 428 = .ok (.idiv, 1) := by decide +kernel
theorem dL_ask_429 : decode cL_ask 429 = .ok (.iconst 5, 1) := by decide +kernel
theorem dL_ask_430 : decode cL_ask 430 = .ok (.irem, 1) := by decide +kernel
theorem dL_ask_431 : decode cL_ask 431 = .ok (.istore 8, 2) := by decide +kernel
theorem dL_ask_433 : decode cL_ask 433 = .ok (.iload 6, 2) := by decide +kernel
theorem dL_ask_435 : decode cL_ask 435 = .ok (.ifCond .eq 53, 3) := by decide +kernel
theorem dL_ask_438 : decode cL_ask 438 = .ok (.aload_n 0, 1) := by decide +kernel
theorem dL_ask_439 : decode cL_ask 439 = .ok (.bipush 58, 2) := by decide +kernel
theorem dL_ask_441 : decode cL_ask 441 = .ok (.invokestatic 20, 3) := by decide +kernel
theorem dL_ask_444 : decode cL_ask 444 = .ok (.ifCond .eq 44, 3) := by decide +kernel
theorem dL_ask_447 : decode cL_ask 447 = .ok (.aload_n 0, 1) := by decide +kernel
theorem dL_ask_448 : decode cL_ask 448 = .ok (.bipush 97, 2) := by decide +kernel
theorem dL_ask_450 : decode cL_ask 450 = .ok (.iload 7, 2) := by decide +kernel
theorem dL_ask_452 : decode cL_ask 452 = .ok (.iadd, 1) := by decide +kernel
theorem dL_ask_453 : decode cL_ask 453 = .ok (.invokestatic 20, 3) := by decide +kernel
theorem dL_ask_456 : decode cL_ask 456 = .ok (.ifCond .eq 32, 3) := by decide +kernel
theorem dL_ask_459 : decode cL_ask 459 = .ok (.iload 8, 2) := by decide +kernel
theorem dL_ask_461 : decode cL_ask 461 = .ok (.iload 7, 2) := by decide +kernel
theorem dL_ask_463 : decode cL_ask 463 = .ok (.if_icmp .eq 21, 3) := by decide +kernel
theorem dL_ask_466 : decode cL_ask 466 = .ok (.iload 8, 2) := by decide +kernel
theorem dL_ask_468 : decode cL_ask 468 = .ok (.iconst 4, 1) := by decide +kernel
theorem dL_ask_469 : decode cL_ask 469 = .ok (.if_icmp .eq 15, 3) := by decide +kernel
theorem dL_ask_472 : decode cL_ask 472 = .ok (.aload_n 0, 1) := by decide +kernel
theorem dL_ask_473 : decode cL_ask 473 = .ok (.bipush 97, 2) := by decide +kernel
theorem dL_ask_475 : decode cL_ask 475 = .ok (.iload 8, 2) := by decide +kernel
theorem dL_ask_477 : decode cL_ask 477 = .ok (.iadd, 1) := by decide +kernel
theorem dL_ask_478 : decode cL_ask 478 = .ok (.invokestatic 20, 3) := by decide +kernel
theorem dL_ask_481 : decode cL_ask 481 = .ok (.ifCond .eq 7, 3) := by decide +kernel
theorem dL_ask_484 : decode cL_ask 484 = .ok (.iconst 1, 1) := by decide +kernel
theorem dL_ask_485 : decode cL_ask 485 = .ok (.goto 4, 3) := by decide +kernel
theorem dL_ask_488 : decode cL_ask 488 = .ok (.iconst 0, 1) := by decide +kernel
theorem dL_ask_489 : decode cL_ask 489 = .ok (.istore 6, 2) := by decide +kernel
theorem dL_ask_491 : decode cL_ask 491 = .ok (.aload 4, 2) := by decide +kernel
theorem dL_ask_493 : decode cL_ask 493 = .ok (.bipush 48, 2) := by decide +kernel
theorem dL_ask_495 : decode cL_ask 495 = .ok (.iload_n 3, 1) := by decide +kernel
theorem dL_ask_496 : decode cL_ask 496 = .ok (.iadd, 1) := by decide +kernel
theorem dL_ask_497 : decode cL_ask 497 = .ok (.iconst 1, 1) := by decide +kernel
theorem dL_ask_498 : decode cL_ask 498 = .ok (.iload 7, 2) := by decide +kernel
theorem dL_ask_500 : decode cL_ask 500 = .ok (.ishl, 1) := by decide +kernel
theorem dL_ask_501 : decode cL_ask 501 = .ok (.iload 8, 2) := by decide +kernel
theorem dL_ask_503 : decode cL_ask 503 = .ok (.iconst 4, 1) := by decide +kernel
theorem dL_ask_504 : decode cL_ask 504 = .ok (.if_icmp .ne 7, 3) := by decide +kernel
theorem dL_ask_507 : decode cL_ask 507 = .ok (.iconst 0, 1) := by decide +kernel
theorem dL_ask_508 : decode cL_ask 508 = .ok (.goto 7, 3) := by decide +kernel
theorem dL_ask_511 : decode cL_ask 511 = .ok (.iconst 1, 1) := by decide +kernel
theorem dL_ask_512 : decode cL_ask 512 = .ok (.iload 8, 2) := by decide +kernel
theorem dL_ask_514 : decode cL_ask 514 = .ok (.ishl, 1) := by decide +kernel
theorem dL_ask_515 : decode cL_ask 515 = .ok (.ior, 1) := by decide +kernel
theorem dL_ask_516 : decode cL_ask 516 = .ok (.iastore, 1) := by decide +kernel
theorem dL_ask_517 : decode cL_ask 517 = .ok (.aload 4, 2) := by decide +kernel
theorem dL_ask_519 : decode cL_ask 519 = .ok (.bipush 56, 2) := by decide +kernel
theorem dL_ask_521 : decode cL_ask 521 = .ok (.iload_n 3, 1) := by decide +kernel
theorem dL_ask_522 : decode cL_ask 522 = .ok (.iadd, 1) := by decide +kernel
theorem dL_ask_523 : decode cL_ask 523 = .ok (.iload_n 1, 1) := by decide +kernel
theorem dL_ask_524 : decode cL_ask 524 = .ok (.ldc 24, 2) := by decide +kernel
theorem dL_ask_526 : decode cL_ask 526 = .ok (.idiv, 1) := by decide +kernel
theorem dL_ask_527 : decode cL_ask 527 = .ok (.iconst 2, 1) := by decide +kernel
theorem dL_ask_528 : decode cL_ask 528 = .ok (.irem, 1) := by decide +kernel
theorem dL_ask_529 : decode cL_ask 529 = .ok (.ifCond .ne 7, 3) := by decide +kernel
theorem dL_ask_532 : decode cL_ask 532 = .ok (.iconst 4, 1) := by decide +kernel
theorem dL_ask_533 : decode cL_ask 533 = .ok (.goto 9, 3) := by decide +kernel
theorem dL_ask_536 : decode cL_ask 536 = .ok (.iload_n 1, 1) := by decide +kernel
theorem dL_ask_537 : decode cL_ask 537 = .ok (.ldc 25, 2) := by decide +kernel
theorem dL_ask_539 : decode cL_ask 539 = .ok (.idiv, 1) := by decide +kernel
theorem dL_ask_540 : decode cL_ask 540 = .ok (.iconst 4, 1) := by decide +kernel
theorem dL_ask_541 : decode cL_ask 541 = .ok (.irem, 1) := by decide +kernel
theorem dL_ask_542 : decode cL_ask 542 = .ok (.iastore, 1) := by decide +kernel
theorem dL_ask_543 : decode cL_ask 543 = .ok (.iload 6, 2) := by decide +kernel
theorem dL_ask_545 : decode cL_ask 545 = .ok (.ifCond .eq 44, 3) := by decide +kernel
theorem dL_ask_548 : decode cL_ask 548 = .ok (.aload 4, 2) := by decide +kernel
theorem dL_ask_550 : decode cL_ask 550 = .ok (.bipush 56, 2) := by decide +kernel
theorem dL_ask_552 : decode cL_ask 552 = .ok (.iload_n 3, 1) := by decide +kernel
theorem dL_ask_553 : decode cL_ask 553 = .ok (.iadd, 1) := by decide +kernel
theorem dL_ask_554 : decode cL_ask 554 = .ok (.iaload, 1) := by decide +kernel
theorem dL_ask_555 : decode cL_ask 555 = .ok (.iconst 4, 1) := by decide +kernel
theorem dL_ask_556 : decode cL_ask 556 = .ok (.if_icmp .eq 29, 3) := by decide +kernel
theorem dL_ask_559 : decode cL_ask 559 = .ok (.aload_n 0, 1) := by decide +kernel
theorem dL_ask_560 : decode cL_ask 560 = .ok (.bipush 47, 2) := by decide +kernel
theorem dL_ask_562 : decode cL_ask 562 = .ok (.invokestatic 20, 3) := by decide +kernel
theorem dL_ask_565 : decode cL_ask 565 = .ok (.ifCond .eq 24, 3) := by decide +kernel
theorem dL_ask_568 : decode cL_ask 568 = .ok (.aload_n 0, 1) := by decide +kernel
theorem dL_ask_569 : decode cL_ask 569 = .ok (.bipush 97, 2) := by decide +kernel
theorem dL_ask_571 : decode cL_ask 571 = .ok (.aload 4, 2) := by decide +kernel
theorem dL_ask_573 : decode cL_ask 573 = .ok (.bipush 56, 2) := by decide +kernel
theorem dL_ask_575 : decode cL_ask 575 = .ok (.iload_n 3, 1) := by decide +kernel
theorem dL_ask_576 : decode cL_ask 576 = .ok (.iadd, 1) := by decide +kernel
theorem dL_ask_577 : decode cL_ask 577 = .ok (.iaload, 1) := by decide +kernel
theorem dL_ask_578 : decode cL_ask 578 = .ok (.iadd, 1) := by decide +kernel
theorem dL_ask_579 : decode cL_ask 579 = .ok (.invokestatic 20, 3) := by decide +kernel
theorem dL_ask_582 : decode cL_ask 582 = .ok (.ifCond .eq 7, 3) := by decide +kernel
theorem dL_ask_585 : decode cL_ask 585 = .ok (.iconst 1, 1) := by decide +kernel
theorem dL_ask_586 : decode cL_ask 586 = .ok (.goto 4, 3) := by decide +kernel
theorem dL_ask_589 : decode cL_ask 589 = .ok (.iconst 0, 1) := by decide +kernel
theorem dL_ask_590 : decode cL_ask 590 = .ok (.istore 6, 2) := by decide +kernel
theorem dL_ask_592 : decode cL_ask 592 = .ok (.iload 6, 2) := by decide +kernel
theorem dL_ask_594 : decode cL_ask 594 = .ok (.ifCond .eq 28, 3) := by decide +kernel
theorem dL_ask_597 : decode cL_ask 597 = .ok (.aload_n 0, 1) := by decide +kernel
theorem dL_ask_598 : decode cL_ask 598 = .ok (.invokevirtual 26, 3) := by decide +kernel
theorem dL_ask_601 : decode cL_ask 601 = .ok (.aload_n 0, 1) := by decide +kernel
theorem dL_ask_602 : decode cL_ask 602 = .ok (.bipush 6, 2) := by decide +kernel
theorem dL_ask_604 : decode cL_ask 604 = .ok (.invokevirtual 30, 3) := by decide +kernel
theorem dL_ask_607 : decode cL_ask 607 = .ok (.if_icmp .ne 15, 3) := by decide +kernel
theorem dL_ask_610 : decode cL_ask 610 = .ok (.aload_n 0, 1) := by decide +kernel
theorem dL_ask_611 : decode cL_ask 611 = .ok (.invokevirtual 34, 3) := by decide +kernel
theorem dL_ask_614 : decode cL_ask 614 = .ok (.iload_n 3, 1) := by decide +kernel
theorem dL_ask_615 : decode cL_ask 615 = .ok (.if_icmp .ne 7, 3) := by decide +kernel
theorem dL_ask_618 : decode cL_ask 618 = .ok (.iconst 1, 1) := by decide +kernel
theorem dL_ask_619 : decode cL_ask 619 = .ok (.goto 4, 3) := by decide +kernel
theorem dL_ask_622 : decode cL_ask 622 = .ok (.iconst 0, 1) := by decide +kernel
theorem dL_ask_623 : decode cL_ask 623 = .ok (.ireturn, 1) := by decide +kernel
theorem dL_fixed_0 : decode cL_fixed 0 = .ok (.aload_n 0, 1) := by decide +kernel
theorem dL_fixed_1 : decode cL_fixed 1 = .ok (.bipush 8, 2) := by decide +kernel
theorem dL_fixed_3 : decode cL_fixed 3 = .ok (.iload_n 1, 1) := by decide +kernel
theorem dL_fixed_4 : decode cL_fixed 4 = .ok (.imul, 1) := by decide +kernel
theorem dL_fixed_5 : decode cL_fixed 5 = .ok (.iload_n 2, 1) := by decide +kernel
theorem dL_fixed_6 : decode cL_fixed 6 = .ok (.iadd, 1) := by decide +kernel
theorem dL_fixed_7 : decode cL_fixed 7 = .ok (.iaload, 1) := by decide +kernel
theorem dL_fixed_8 : decode cL_fixed 8 = .ok (.aload_n 0, 1) := by decide +kernel
theorem dL_fixed_9 : decode cL_fixed 9 = .ok (.bipush 8, 2) := by decide +kernel
theorem dL_fixed_11 : decode cL_fixed 11 = .ok (.iload_n 1, 1) := by decide +kernel
theorem dL_fixed_12 : decode cL_fixed 12 = .ok (.imul, 1) := by decide +kernel
theorem dL_fixed_13 : decode cL_fixed 13 = .ok (.iconst 4, 1) := by decide +kernel
theorem dL_fixed_14 : decode cL_fixed 14 = .ok (.iadd, 1) := by decide +kernel
theorem dL_fixed_15 : decode cL_fixed 15 = .ok (.iload_n 2, 1) := by decide +kernel
theorem dL_fixed_16 : decode cL_fixed 16 = .ok (.iadd, 1) := by decide +kernel
theorem dL_fixed_17 : decode cL_fixed 17 = .ok (.iaload, 1) := by decide +kernel
theorem dL_fixed_18 : decode cL_fixed 18 = .ok (.if_icmp .ne 7, 3) := by decide +kernel
theorem dL_fixed_21 : decode cL_fixed 21 = .ok (.iconst 1, 1) := by decide +kernel
theorem dL_fixed_22 : decode cL_fixed 22 = .ok (.goto 4, 3) := by decide +kernel
theorem dL_fixed_25 : decode cL_fixed 25 = .ok (.iconst 0, 1) := by decide +kernel
theorem dL_fixed_26 : decode cL_fixed 26 = .ok (.ireturn, 1) := by decide +kernel
theorem dL_bound_0 : decode cL_bound 0 = .ok (.aload_n 0, 1) := by decide +kernel
theorem dL_bound_1 : decode cL_bound 1 = .ok (.bipush 8, 2) := by decide +kernel
theorem dL_bound_3 : decode cL_bound 3 = .ok (.iload_n 1, 1) := by decide +kernel
theorem dL_bound_4 : decode cL_bound 4 = .ok (.imul, 1) := by decide +kernel
theorem dL_bound_5 : decode cL_bound 5 = .ok (.iload_n 2, 1) := by decide +kernel
theorem dL_bound_6 : decode cL_bound 6 = .ok (.iadd, 1) := by decide +kernel
theorem dL_bound_7 : decode cL_bound 7 = .ok (.iaload, 1) := by decide +kernel
theorem dL_bound_8 : decode cL_bound 8 = .ok (.ifCond .gt 18, 3) := by decide +kernel
theorem dL_bound_11 : decode cL_bound 11 = .ok (.aload_n 0, 1) := by decide +kernel
theorem dL_bound_12 : decode cL_bound 12 = .ok (.bipush 8, 2) := by decide +kernel
theorem dL_bound_14 : decode cL_bound 14 = .ok (.iload_n 1, 1) := by decide +kernel
theorem dL_bound_15 : decode cL_bound 15 = .ok (.imul, 1) := by decide +kernel
theorem dL_bound_16 : decode cL_bound 16 = .ok (.iconst 4, 1) := by decide +kernel
theorem dL_bound_17 : decode cL_bound 17 = .ok (.iadd, 1) := by decide +kernel
theorem dL_bound_18 : decode cL_bound 18 = .ok (.iload_n 2, 1) := by decide +kernel
theorem dL_bound_19 : decode cL_bound 19 = .ok (.iadd, 1) := by decide +kernel
theorem dL_bound_20 : decode cL_bound 20 = .ok (.iaload, 1) := by decide +kernel
theorem dL_bound_21 : decode cL_bound 21 = .ok (.bipush 99, 2) := by decide +kernel
theorem dL_bound_23 : decode cL_bound 23 = .ok (.if_icmp .ge 7, 3) := by decide +kernel
theorem dL_bound_26 : decode cL_bound 26 = .ok (.iconst 1, 1) := by decide +kernel
theorem dL_bound_27 : decode cL_bound 27 = .ok (.goto 4, 3) := by decide +kernel
theorem dL_bound_30 : decode cL_bound 30 = .ok (.iconst 0, 1) := by decide +kernel
theorem dL_bound_31 : decode cL_bound 31 = .ok (.ireturn, 1) := by decide +kernel
theorem dL_within_0 : decode cL_within 0 = .ok (.aload_n 0, 1) := by decide +kernel
theorem dL_within_1 : decode cL_within 1 = .ok (.iload_n 3, 1) := by decide +kernel
theorem dL_within_2 : decode cL_within 2 = .ok (.iload 4, 2) := by decide +kernel
theorem dL_within_4 : decode cL_within 4 = .ok (.invokevirtual 37, 3) := by decide +kernel
theorem dL_within_7 : decode cL_within 7 = .ok (.istore 5, 2) := by decide +kernel
theorem dL_within_9 : decode cL_within 9 = .ok (.iload 5, 2) := by decide +kernel
theorem dL_within_11 : decode cL_within 11 = .ok (.aload_n 1, 1) := by decide +kernel
theorem dL_within_12 : decode cL_within 12 = .ok (.bipush 8, 2) := by decide +kernel
theorem dL_within_14 : decode cL_within 14 = .ok (.iload_n 2, 1) := by decide +kernel
theorem dL_within_15 : decode cL_within 15 = .ok (.imul, 1) := by decide +kernel
theorem dL_within_16 : decode cL_within 16 = .ok (.iload 4, 2) := by decide +kernel
theorem dL_within_18 : decode cL_within 18 = .ok (.iadd, 1) := by decide +kernel
theorem dL_within_19 : decode cL_within 19 = .ok (.iaload, 1) := by decide +kernel
theorem dL_within_20 : decode cL_within 20 = .ok (.if_icmp .lt 23, 3) := by decide +kernel
theorem dL_within_23 : decode cL_within 23 = .ok (.iload 5, 2) := by decide +kernel
theorem dL_within_25 : decode cL_within 25 = .ok (.aload_n 1, 1) := by decide +kernel
theorem dL_within_26 : decode cL_within 26 = .ok (.bipush 8, 2) := by decide +kernel
theorem dL_within_28 : decode cL_within 28 = .ok (.iload_n 2, 1) := by decide +kernel
theorem dL_within_29 : decode cL_within 29 = .ok (.imul, 1) := by decide +kernel
theorem dL_within_30 : decode cL_within 30 = .ok (.iconst 4, 1) := by decide +kernel
theorem dL_within_31 : decode cL_within 31 = .ok (.iadd, 1) := by decide +kernel
theorem dL_within_32 : decode cL_within 32 = .ok (.iload 4, 2) := by decide +kernel
theorem dL_within_34 : decode cL_within 34 = .ok (.iadd, 1) := by decide +kernel
theorem dL_within_35 : decode cL_within 35 = .ok (.iaload, 1) := by decide +kernel
theorem dL_within_36 : decode cL_within 36 = .ok (.if_icmp .gt 7, 3) := by decide +kernel
theorem dL_within_39 : decode cL_within 39 = .ok (.iconst 1, 1) := by decide +kernel
theorem dL_within_40 : decode cL_within 40 = .ok (.goto 4, 3) := by decide +kernel
theorem dL_within_43 : decode cL_within 43 = .ok (.iconst 0, 1) := by decide +kernel
theorem dL_within_44 : decode cL_within 44 = .ok (.ireturn, 1) := by decide +kernel
theorem dL_column_0 : decode cL_column 0 = .ok (.iload_n 0, 1) := by decide +kernel
theorem dL_column_1 : decode cL_column 1 = .ok (.bipush 24, 2) := by decide +kernel
theorem dL_column_3 : decode cL_column 3 = .ok (.if_icmp .le 7, 3) := by decide +kernel
theorem dL_column_6 : decode cL_column 6 = .ok (.iconst 3, 1) := by decide +kernel
theorem dL_column_7 : decode cL_column 7 = .ok (.goto 13, 3) := by decide +kernel
theorem dL_column_10 : decode cL_column 10 = .ok (.iload_n 0, 1) := by decide +kernel
theorem dL_column_11 : decode cL_column 11 = .ok (.iconst 4, 1) := by decide +kernel
theorem dL_column_12 : decode cL_column 12 = .ok (.if_icmp .le 7, 3) := by decide +kernel
theorem dL_column_15 : decode cL_column 15 = .ok (.iconst 2, 1) := by decide +kernel
theorem dL_column_16 : decode cL_column 16 = .ok (.goto 4, 3) := by decide +kernel
theorem dL_column_19 : decode cL_column 19 = .ok (.iconst 1, 1) := by decide +kernel
theorem dL_column_20 : decode cL_column 20 = .ok (.istore_n 2, 1) := by decide +kernel
theorem dL_column_21 : decode cL_column 21 = .ok (.iload_n 0, 1) := by decide +kernel
theorem dL_column_22 : decode cL_column 22 = .ok (.istore_n 3, 1) := by decide +kernel
theorem dL_column_23 : decode cL_column 23 = .ok (.iload_n 2, 1) := by decide +kernel
theorem dL_column_24 : decode cL_column 24 = .ok (.iconst 1, 1) := by decide +kernel
theorem dL_column_25 : decode cL_column 25 = .ok (.isub, 1) := by decide +kernel
theorem dL_column_26 : decode cL_column 26 = .ok (.istore 4, 2) := by decide +kernel
theorem dL_column_28 : decode cL_column 28 = .ok (.iload 4, 2) := by decide +kernel
theorem dL_column_30 : decode cL_column 30 = .ok (.iload_n 1, 1) := by decide +kernel
theorem dL_column_31 : decode cL_column 31 = .ok (.if_icmp .le 13, 3) := by decide +kernel
theorem dL_column_34 : decode cL_column 34 = .ok (.iload_n 3, 1) := by decide +kernel
theorem dL_column_35 : decode cL_column 35 = .ok (.iconst 5, 1) := by decide +kernel
theorem dL_column_36 : decode cL_column 36 = .ok (.idiv, 1) := by decide +kernel
theorem dL_column_37 : decode cL_column 37 = .ok (.istore_n 3, 1) := by decide +kernel
theorem dL_column_38 : decode cL_column 38 = .ok (.iinc 4 (-1), 3) := by decide +kernel
theorem dL_column_41 : decode cL_column 41 = .ok (.goto (-13), 3) := by decide +kernel
theorem dL_column_44 : decode cL_column 44 = .ok (.iload_n 1, 1) := by decide +kernel
theorem dL_column_45 : decode cL_column 45 = .ok (.iload_n 2, 1) := by decide +kernel
theorem dL_column_46 : decode cL_column 46 = .ok (.if_icmp .ge 11, 3) := by decide +kernel
theorem dL_column_49 : decode cL_column 49 = .ok (.iload_n 3, 1) := by decide +kernel
theorem dL_column_50 : decode cL_column 50 = .ok (.iconst 5, 1) := by decide +kernel
theorem dL_column_51 : decode cL_column 51 = .ok (.irem, 1) := by decide +kernel
theorem dL_column_52 : decode cL_column 52 = .ok (.iconst 1, 1) := by decide +kernel
theorem dL_column_53 : decode cL_column 53 = .ok (.isub, 1) := by decide +kernel
theorem dL_column_54 : decode cL_column 54 = .ok (.goto 4, 3) := by decide +kernel
theorem dL_column_57 : decode cL_column 57 = .ok (.iconst (-1), 1) := by decide +kernel
theorem dL_column_58 : decode cL_column 58 = .ok (.ireturn, 1) := by decide +kernel
theorem dL_run_0 : decode cL_run 0 = .ok (.iconst 0, 1) := by decide +kernel
theorem dL_run_1 : decode cL_run 1 = .ok (.istore_n 3, 1) := by decide +kernel
theorem dL_run_2 : decode cL_run 2 = .ok (.iload_n 2, 1) := by decide +kernel
theorem dL_run_3 : decode cL_run 3 = .ok (.iload_n 3, 1) := by decide +kernel
theorem dL_run_4 : decode cL_run 4 = .ok (.invokestatic 40, 3) := by decide +kernel
theorem dL_run_7 : decode cL_run 7 = .ok (.ifCond .lt 22, 3) := by decide +kernel
theorem dL_run_10 : decode cL_run 10 = .ok (.aload_n 0, 1) := by decide +kernel
theorem dL_run_11 : decode cL_run 11 = .ok (.iload_n 1, 1) := by decide +kernel
theorem dL_run_12 : decode cL_run 12 = .ok (.iload_n 2, 1) := by decide +kernel
theorem dL_run_13 : decode cL_run 13 = .ok (.iload_n 3, 1) := by decide +kernel
theorem dL_run_14 : decode cL_run 14 = .ok (.invokestatic 40, 3) := by decide +kernel
theorem dL_run_17 : decode cL_run 17 = .ok (.invokestatic 43, 3) := by decide +kernel
theorem dL_run_20 : decode cL_run 20 = .ok (.ifCond .eq 9, 3) := by decide +kernel
theorem dL_run_23 : decode cL_run 23 = .ok (.iinc 3 1, 3) := by decide +kernel
theorem dL_run_26 : decode cL_run 26 = .ok (.goto (-24), 3) := by decide +kernel
theorem dL_run_29 : decode cL_run 29 = .ok (.iload_n 2, 1) := by decide +kernel
theorem dL_run_30 : decode cL_run 30 = .ok (.iload_n 3, 1) := by decide +kernel
theorem dL_run_31 : decode cL_run 31 = .ok (.invokestatic 40, 3) := by decide +kernel
theorem dL_run_34 : decode cL_run 34 = .ok (.ifCond .lt 20, 3) := by decide +kernel
theorem dL_run_37 : decode cL_run 37 = .ok (.aload_n 0, 1) := by decide +kernel
theorem dL_run_38 : decode cL_run 38 = .ok (.iload_n 1, 1) := by decide +kernel
theorem dL_run_39 : decode cL_run 39 = .ok (.iload_n 2, 1) := by decide +kernel
theorem dL_run_40 : decode cL_run 40 = .ok (.iload_n 3, 1) := by decide +kernel
theorem dL_run_41 : decode cL_run 41 = .ok (.invokestatic 40, 3) := by decide +kernel
theorem dL_run_44 : decode cL_run 44 = .ok (.invokestatic 47, 3) := by decide +kernel
theorem dL_run_47 : decode cL_run 47 = .ok (.ifCond .eq 7, 3) := by decide +kernel
theorem dL_run_50 : decode cL_run 50 = .ok (.iconst 1, 1) := by decide +kernel
theorem dL_run_51 : decode cL_run 51 = .ok (.goto 4, 3) := by decide +kernel
theorem dL_run_54 : decode cL_run 54 = .ok (.iconst 0, 1) := by decide +kernel
theorem dL_run_55 : decode cL_run 55 = .ok (.istore 4, 2) := by decide +kernel
theorem dL_run_57 : decode cL_run 57 = .ok (.bipush 8, 2) := by decide +kernel
theorem dL_run_59 : decode cL_run 59 = .ok (.iload_n 3, 1) := by decide +kernel
theorem dL_run_60 : decode cL_run 60 = .ok (.imul, 1) := by decide +kernel
theorem dL_run_61 : decode cL_run 61 = .ok (.iload 4, 2) := by decide +kernel
theorem dL_run_63 : decode cL_run 63 = .ok (.ifCond .eq 9, 3) := by decide +kernel
theorem dL_run_66 : decode cL_run 66 = .ok (.iload_n 3, 1) := by decide +kernel
theorem dL_run_67 : decode cL_run 67 = .ok (.iconst 1, 1) := by decide +kernel
theorem dL_run_68 : decode cL_run 68 = .ok (.iadd, 1) := by decide +kernel
theorem dL_run_69 : decode cL_run 69 = .ok (.goto 4, 3) := by decide +kernel
theorem dL_run_72 : decode cL_run 72 = .ok (.iload_n 3, 1) := by decide +kernel
theorem dL_run_73 : decode cL_run 73 = .ok (.iadd, 1) := by decide +kernel
theorem dL_run_74 : decode cL_run 74 = .ok (.ireturn, 1) := by decide +kernel
theorem dL_leaves_0 : decode cL_leaves 0 = .ok (.aload_n 0, 1) := by decide +kernel
theorem dL_leaves_1 : decode cL_leaves 1 = .ok (.iload_n 3, 1) := by decide +kernel
theorem dL_leaves_2 : decode cL_leaves 2 = .ok (.iconst 0, 1) := by decide +kernel
theorem dL_leaves_3 : decode cL_leaves 3 = .ok (.invokevirtual 50, 3) := by decide +kernel
theorem dL_leaves_6 : decode cL_leaves 6 = .ok (.istore 5, 2) := by decide +kernel
theorem dL_leaves_8 : decode cL_leaves 8 = .ok (.aload_n 1, 1) := by decide +kernel
theorem dL_leaves_9 : decode cL_leaves 9 = .ok (.iload_n 2, 1) := by decide +kernel
theorem dL_leaves_10 : decode cL_leaves 10 = .ok (.iload 5, 2) := by decide +kernel
theorem dL_leaves_12 : decode cL_leaves 12 = .ok (.invokestatic 53, 3) := by decide +kernel
theorem dL_leaves_15 : decode cL_leaves 15 = .ok (.bipush 8, 2) := by decide +kernel
theorem dL_leaves_17 : decode cL_leaves 17 = .ok (.irem, 1) := by decide +kernel
theorem dL_leaves_18 : decode cL_leaves 18 = .ok (.istore 6, 2) := by decide +kernel
theorem dL_leaves_20 : decode cL_leaves 20 = .ok (.iconst 0, 1) := by decide +kernel
theorem dL_leaves_21 : decode cL_leaves 21 = .ok (.istore 7, 2) := by decide +kernel
theorem dL_leaves_23 : decode cL_leaves 23 = .ok (.iconst 0, 1) := by decide +kernel
theorem dL_leaves_24 : decode cL_leaves 24 = .ok (.istore 8, 2) := by decide +kernel
theorem dL_leaves_26 : decode cL_leaves 26 = .ok (.bipush 64, 2) := by decide +kernel
theorem dL_leaves_28 : decode cL_leaves 28 = .ok (.newarray .int, 2) := by decide +kernel
theorem dL_leaves_30 : decode cL_leaves 30 = .ok (.astore 9, 2) := by decide +kernel
theorem dL_leaves_32 : decode cL_leaves 32 = .ok (.iconst 0, 1) := by decide +kernel
theorem dL_leaves_33 : decode cL_leaves 33 = .ok (.istore 10, 2) := by decide +kernel
theorem dL_leaves_35 : decode cL_leaves 35 = .ok (.aload_n 0, 1) := by decide +kernel
theorem dL_leaves_36 : decode cL_leaves 36 = .ok (.iload_n 3, 1) := by decide +kernel
theorem dL_leaves_37 : decode cL_leaves 37 = .ok (.iload 10, 2) := by decide +kernel
theorem dL_leaves_39 : decode cL_leaves 39 = .ok (.invokevirtual 57, 3) := by decide +kernel
theorem dL_leaves_42 : decode cL_leaves 42 = .ok (.ifCond .le 175, 3) := by decide +kernel
theorem dL_leaves_45 : decode cL_leaves 45 = .ok (.iconst 0, 1) := by decide +kernel
theorem dL_leaves_46 : decode cL_leaves 46 = .ok (.istore 11, 2) := by decide +kernel
theorem dL_leaves_48 : decode cL_leaves 48 = .ok (.iconst 0, 1) := by decide +kernel
theorem dL_leaves_49 : decode cL_leaves 49 = .ok (.istore 12, 2) := by decide +kernel
theorem dL_leaves_51 : decode cL_leaves 51 = .ok (.iload 12, 2) := by decide +kernel
theorem dL_leaves_53 : decode cL_leaves 53 = .ok (.aload_n 0, 1) := by decide +kernel
theorem dL_leaves_54 : decode cL_leaves 54 = .ok (.iload_n 3, 1) := by decide +kernel
theorem dL_leaves_55 : decode cL_leaves 55 = .ok (.iload 10, 2) := by decide +kernel
theorem dL_leaves_57 : decode cL_leaves 57 = .ok (.invokevirtual 57, 3) := by decide +kernel
theorem dL_leaves_60 : decode cL_leaves 60 = .ok (.if_icmp .ge 136, 3) := by decide +kernel
theorem dL_leaves_63 : decode cL_leaves 63 = .ok (.aload_n 0, 1) := by decide +kernel
theorem dL_leaves_64 : decode cL_leaves 64 = .ok (.iload_n 3, 1) := by decide +kernel
theorem dL_leaves_65 : decode cL_leaves 65 = .ok (.iload 8, 2) := by decide +kernel
theorem dL_leaves_67 : decode cL_leaves 67 = .ok (.invokevirtual 60, 3) := by decide +kernel
theorem dL_leaves_70 : decode cL_leaves 70 = .ok (.istore 13, 2) := by decide +kernel
theorem dL_leaves_72 : decode cL_leaves 72 = .ok (.iconst 1, 1) := by decide +kernel
theorem dL_leaves_73 : decode cL_leaves 73 = .ok (.istore 14, 2) := by decide +kernel
theorem dL_leaves_75 : decode cL_leaves 75 = .ok (.iconst 1, 1) := by decide +kernel
theorem dL_leaves_76 : decode cL_leaves 76 = .ok (.istore 15, 2) := by decide +kernel
theorem dL_leaves_78 : decode cL_leaves 78 = .ok (.iconst 0, 1) := by decide +kernel
theorem dL_leaves_79 : decode cL_leaves 79 = .ok (.istore 16, 2) := by decide +kernel
theorem dL_leaves_81 : decode cL_leaves 81 = .ok (.iload 5, 2) := by decide +kernel
theorem dL_leaves_83 : decode cL_leaves 83 = .ok (.iload 16, 2) := by decide +kernel
theorem dL_leaves_85 : decode cL_leaves 85 = .ok (.invokestatic 40, 3) := by decide +kernel
theorem dL_leaves_88 : decode cL_leaves 88 = .ok (.ifCond .lt 67, 3) := by decide +kernel
theorem dL_leaves_91 : decode cL_leaves 91 = .ok (.aload_n 0, 1) := by decide +kernel
theorem dL_leaves_92 : decode cL_leaves 92 = .ok (.aload_n 1, 1) := by decide +kernel
theorem dL_leaves_93 : decode cL_leaves 93 = .ok (.iload_n 2, 1) := by decide +kernel
theorem dL_leaves_94 : decode cL_leaves 94 = .ok (.iload 13, 2) := by decide +kernel
theorem dL_leaves_96 : decode cL_leaves 96 = .ok (.iload 5, 2) := by decide +kernel
theorem dL_leaves_98 : decode cL_leaves 98 = .ok (.iload 16, 2) := by decide +kernel
theorem dL_leaves_100 : decode cL_leaves 100 = .ok (.invokestatic 40, 3) := by decide +kernel
theorem dL_leaves_103 : decode cL_leaves 103 = .ok (.invokestatic 63, 3) := by decide +kernel
theorem dL_leaves_106 : decode cL_leaves 106 = .ok (.istore 17, 2) := by decide +kernel
theorem dL_leaves_108 : decode cL_leaves 108 = .ok (.iload 14, 2) := by decide +kernel
theorem dL_leaves_110 : decode cL_leaves 110 = .ok (.ifCond .eq 19, 3) := by decide +kernel
theorem dL_leaves_113 : decode cL_leaves 113 = .ok (.iload 16, 2) := by decide +kernel
theorem dL_leaves_115 : decode cL_leaves 115 = .ok (.iload 6, 2) := by decide +kernel
theorem dL_leaves_117 : decode cL_leaves 117 = .ok (.if_icmp .ge 8, 3) := by decide +kernel
theorem dL_leaves_120 : decode cL_leaves 120 = .ok (.iload 17, 2) := by decide +kernel
theorem dL_leaves_122 : decode cL_leaves 122 = .ok (.ifCond .eq 7, 3) := by decide +kernel
theorem dL_leaves_125 : decode cL_leaves 125 = .ok (.iconst 1, 1) := by decide +kernel
theorem dL_leaves_126 : decode cL_leaves 126 = .ok (.goto 4, 3) := by decide +kernel
theorem dL_leaves_129 : decode cL_leaves 129 = .ok (.iconst 0, 1) := by decide +kernel
theorem dL_leaves_130 : decode cL_leaves 130 = .ok (.istore 14, 2) := by decide +kernel
theorem dL_leaves_132 : decode cL_leaves 132 = .ok (.iload 15, 2) := by decide +kernel
theorem dL_leaves_134 : decode cL_leaves 134 = .ok (.ifCond .eq 12, 3) := by decide +kernel
theorem dL_leaves_137 : decode cL_leaves 137 = .ok (.iload 17, 2) := by decide +kernel
theorem dL_leaves_139 : decode cL_leaves 139 = .ok (.ifCond .eq 7, 3) := by decide +kernel
theorem dL_leaves_142 : decode cL_leaves 142 = .ok (.iconst 1, 1) := by decide +kernel
theorem dL_leaves_143 : decode cL_leaves 143 = .ok (.goto 4, 3) := by decide +kernel
theorem dL_leaves_146 : decode cL_leaves 146 = .ok (.iconst 0, 1) := by decide +kernel
theorem dL_leaves_147 : decode cL_leaves 147 = .ok (.istore 15, 2) := by decide +kernel
theorem dL_leaves_149 : decode cL_leaves 149 = .ok (.iinc 16 1, 3) := by decide +kernel
theorem dL_leaves_152 : decode cL_leaves 152 = .ok (.goto (-71), 3) := by decide +kernel
theorem dL_leaves_155 : decode cL_leaves 155 = .ok (.iload 11, 2) := by decide +kernel
theorem dL_leaves_157 : decode cL_leaves 157 = .ok (.ifCond .ne 8, 3) := by decide +kernel
theorem dL_leaves_160 : decode cL_leaves 160 = .ok (.iload 14, 2) := by decide +kernel
theorem dL_leaves_162 : decode cL_leaves 162 = .ok (.ifCond .eq 7, 3) := by decide +kernel
theorem dL_leaves_165 : decode cL_leaves 165 = .ok (.iconst 1, 1) := by decide +kernel
theorem dL_leaves_166 : decode cL_leaves 166 = .ok (.goto 4, 3) := by decide +kernel
theorem dL_leaves_169 : decode cL_leaves 169 = .ok (.iconst 0, 1) := by decide +kernel
theorem dL_leaves_170 : decode cL_leaves 170 = .ok (.istore 11, 2) := by decide +kernel
theorem dL_leaves_172 : decode cL_leaves 172 = .ok (.aload 9, 2) := by decide +kernel
theorem dL_leaves_174 : decode cL_leaves 174 = .ok (.iload 13, 2) := by decide +kernel
theorem dL_leaves_176 : decode cL_leaves 176 = .ok (.iload 15, 2) := by decide +kernel
theorem dL_leaves_178 : decode cL_leaves 178 = .ok (.ifCond .eq 7, 3) := by decide +kernel
theorem dL_leaves_181 : decode cL_leaves 181 = .ok (.iconst 1, 1) := by decide +kernel
theorem dL_leaves_182 : decode cL_leaves 182 = .ok (.goto 4, 3) := by decide +kernel
theorem dL_leaves_185 : decode cL_leaves 185 = .ok (.iconst 0, 1) := by decide +kernel
theorem dL_leaves_186 : decode cL_leaves 186 = .ok (.iastore, 1) := by decide +kernel
theorem dL_leaves_187 : decode cL_leaves 187 = .ok (.iinc 8 1, 3) := by decide +kernel
theorem dL_leaves_190 : decode cL_leaves 190 = .ok (.iinc 12 1, 3) := by decide +kernel
theorem dL_leaves_193 : decode cL_leaves 193 = .ok (.goto (-142), 3) := by decide +kernel
theorem dL_leaves_196 : decode cL_leaves 196 = .ok (.iload 7, 2) := by decide +kernel
theorem dL_leaves_198 : decode cL_leaves 198 = .ok (.iload 11, 2) := by decide +kernel
theorem dL_leaves_200 : decode cL_leaves 200 = .ok (.ifCond .eq 7, 3) := by decide +kernel
theorem dL_leaves_203 : decode cL_leaves 203 = .ok (.iconst 1, 1) := by decide +kernel
theorem dL_leaves_204 : decode cL_leaves 204 = .ok (.goto 4, 3) := by decide +kernel
theorem dL_leaves_207 : decode cL_leaves 207 = .ok (.iconst 0, 1) := by decide +kernel
theorem dL_leaves_208 : decode cL_leaves 208 = .ok (.iadd, 1) := by decide +kernel
theorem dL_leaves_209 : decode cL_leaves 209 = .ok (.istore 7, 2) := by decide +kernel
theorem dL_leaves_211 : decode cL_leaves 211 = .ok (.iinc 10 1, 3) := by decide +kernel
theorem dL_leaves_214 : decode cL_leaves 214 = .ok (.goto (-179), 3) := by decide +kernel
theorem dL_leaves_217 : decode cL_leaves 217 = .ok (.iconst 0, 1) := by decide +kernel
theorem dL_leaves_218 : decode cL_leaves 218 = .ok (.istore 10, 2) := by decide +kernel
theorem dL_leaves_220 : decode cL_leaves 220 = .ok (.iload 10, 2) := by decide +kernel
theorem dL_leaves_222 : decode cL_leaves 222 = .ok (.bipush 64, 2) := by decide +kernel
theorem dL_leaves_224 : decode cL_leaves 224 = .ok (.if_icmp .ge 25, 3) := by decide +kernel
theorem dL_leaves_227 : decode cL_leaves 227 = .ok (.aload 4, 2) := by decide +kernel
theorem dL_leaves_229 : decode cL_leaves 229 = .ok (.iload 10, 2) := by decide +kernel
theorem dL_leaves_231 : decode cL_leaves 231 = .ok (.aload 4, 2) := by decide +kernel
theorem dL_leaves_233 : decode cL_leaves 233 = .ok (.iload 10, 2) := by decide +kernel
theorem dL_leaves_235 : decode cL_leaves 235 = .ok (.iaload, 1) := by decide +kernel
theorem dL_leaves_236 : decode cL_leaves 236 = .ok (.aload 9, 2) := by decide +kernel
theorem dL_leaves_238 : decode cL_leaves 238 = .ok (.iload 10, 2) := by decide +kernel
theorem dL_leaves_240 : decode cL_leaves 240 = .ok (.iaload, 1) := by decide +kernel
theorem dL_leaves_241 : decode cL_leaves 241 = .ok (.imul, 1) := by decide +kernel
theorem dL_leaves_242 : decode cL_leaves 242 = .ok (.iastore, 1) := by decide +kernel
theorem dL_leaves_243 : decode cL_leaves 243 = .ok (.iinc 10 1, 3) := by decide +kernel
theorem dL_leaves_246 : decode cL_leaves 246 = .ok (.goto (-26), 3) := by decide +kernel
theorem dL_leaves_249 : decode cL_leaves 249 = .ok (.iload 7, 2) := by decide +kernel
theorem dL_leaves_251 : decode cL_leaves 251 = .ok (.ifCond .ne 12, 3) := by decide +kernel
theorem dL_leaves_254 : decode cL_leaves 254 = .ok (.iload 8, 2) := by decide +kernel
theorem dL_leaves_256 : decode cL_leaves 256 = .ok (.ifCond .le 7, 3) := by decide +kernel
theorem dL_leaves_259 : decode cL_leaves 259 = .ok (.iconst 1, 1) := by decide +kernel
theorem dL_leaves_260 : decode cL_leaves 260 = .ok (.goto 5, 3) := by decide +kernel
theorem dL_leaves_263 : decode cL_leaves 263 = .ok (.iload 7, 2) := by decide +kernel
theorem dL_leaves_265 : decode cL_leaves 265 = .ok (.istore 7, 2) := by decide +kernel
theorem dL_leaves_267 : decode cL_leaves 267 = .ok (.aload_n 0, 1) := by decide +kernel
theorem dL_leaves_268 : decode cL_leaves 268 = .ok (.iload_n 3, 1) := by decide +kernel
theorem dL_leaves_269 : decode cL_leaves 269 = .ok (.iconst 2, 1) := by decide +kernel
theorem dL_leaves_270 : decode cL_leaves 270 = .ok (.invokevirtual 50, 3) := by decide +kernel
theorem dL_leaves_273 : decode cL_leaves 273 = .ok (.iload 7, 2) := by decide +kernel
theorem dL_leaves_275 : decode cL_leaves 275 = .ok (.iadd, 1) := by decide +kernel
theorem dL_leaves_276 : decode cL_leaves 276 = .ok (.ireturn, 1) := by decide +kernel
theorem dL_pages_0 : decode cL_pages 0 = .ok (.iconst 0, 1) := by decide +kernel
theorem dL_pages_1 : decode cL_pages 1 = .ok (.istore_n 2, 1) := by decide +kernel
theorem dL_pages_2 : decode cL_pages 2 = .ok (.iconst 0, 1) := by decide +kernel
theorem dL_pages_3 : decode cL_pages 3 = .ok (.istore_n 3, 1) := by decide +kernel
theorem dL_pages_4 : decode cL_pages 4 = .ok (.iload_n 3, 1) := by decide +kernel
theorem dL_pages_5 : decode cL_pages 5 = .ok (.bipush 64, 2) := by decide +kernel
theorem dL_pages_7 : decode cL_pages 7 = .ok (.if_icmp .ge 69, 3) := by decide +kernel
theorem dL_pages_10 : decode cL_pages 10 = .ok (.iconst 0, 1) := by decide +kernel
theorem dL_pages_11 : decode cL_pages 11 = .ok (.istore 4, 2) := by decide +kernel
theorem dL_pages_13 : decode cL_pages 13 = .ok (.iload_n 3, 1) := by decide +kernel
theorem dL_pages_14 : decode cL_pages 14 = .ok (.istore 5, 2) := by decide +kernel
theorem dL_pages_16 : decode cL_pages 16 = .ok (.iload 5, 2) := by decide +kernel
theorem dL_pages_18 : decode cL_pages 18 = .ok (.iload_n 3, 1) := by decide +kernel
theorem dL_pages_19 : decode cL_pages 19 = .ok (.iload_n 1, 1) := by decide +kernel
theorem dL_pages_20 : decode cL_pages 20 = .ok (.iadd, 1) := by decide +kernel
theorem dL_pages_21 : decode cL_pages 21 = .ok (.if_icmp .ge 35, 3) := by decide +kernel
theorem dL_pages_24 : decode cL_pages 24 = .ok (.iload 5, 2) := by decide +kernel
theorem dL_pages_26 : decode cL_pages 26 = .ok (.bipush 64, 2) := by decide +kernel
theorem dL_pages_28 : decode cL_pages 28 = .ok (.if_icmp .ge 28, 3) := by decide +kernel
theorem dL_pages_31 : decode cL_pages 31 = .ok (.iload 4, 2) := by decide +kernel
theorem dL_pages_33 : decode cL_pages 33 = .ok (.ifCond .ne 10, 3) := by decide +kernel
theorem dL_pages_36 : decode cL_pages 36 = .ok (.aload_n 0, 1) := by decide +kernel
theorem dL_pages_37 : decode cL_pages 37 = .ok (.iload 5, 2) := by decide +kernel
theorem dL_pages_39 : decode cL_pages 39 = .ok (.iaload, 1) := by decide +kernel
theorem dL_pages_40 : decode cL_pages 40 = .ok (.ifCond .le 7, 3) := by decide +kernel
theorem dL_pages_43 : decode cL_pages 43 = .ok (.iconst 1, 1) := by decide +kernel
theorem dL_pages_44 : decode cL_pages 44 = .ok (.goto 4, 3) := by decide +kernel
theorem dL_pages_47 : decode cL_pages 47 = .ok (.iconst 0, 1) := by decide +kernel
theorem dL_pages_48 : decode cL_pages 48 = .ok (.istore 4, 2) := by decide +kernel
theorem dL_pages_50 : decode cL_pages 50 = .ok (.iinc 5 1, 3) := by decide +kernel
theorem dL_pages_53 : decode cL_pages 53 = .ok (.goto (-37), 3) := by decide +kernel
theorem dL_pages_56 : decode cL_pages 56 = .ok (.iload_n 2, 1) := by decide +kernel
theorem dL_pages_57 : decode cL_pages 57 = .ok (.iload 4, 2) := by decide +kernel
theorem dL_pages_59 : decode cL_pages 59 = .ok (.ifCond .eq 7, 3) := by decide +kernel
theorem dL_pages_62 : decode cL_pages 62 = .ok (.iconst 1, 1) := by decide +kernel
theorem dL_pages_63 : decode cL_pages 63 = .ok (.goto 4, 3) := by decide +kernel
theorem dL_pages_66 : decode cL_pages 66 = .ok (.iconst 0, 1) := by decide +kernel
theorem dL_pages_67 : decode cL_pages 67 = .ok (.iadd, 1) := by decide +kernel
theorem dL_pages_68 : decode cL_pages 68 = .ok (.istore_n 2, 1) := by decide +kernel
theorem dL_pages_69 : decode cL_pages 69 = .ok (.iload_n 3, 1) := by decide +kernel
theorem dL_pages_70 : decode cL_pages 70 = .ok (.iload_n 1, 1) := by decide +kernel
theorem dL_pages_71 : decode cL_pages 71 = .ok (.iadd, 1) := by decide +kernel
theorem dL_pages_72 : decode cL_pages 72 = .ok (.istore_n 3, 1) := by decide +kernel
theorem dL_pages_73 : decode cL_pages 73 = .ok (.goto (-69), 3) := by decide +kernel
theorem dL_pages_76 : decode cL_pages 76 = .ok (.iload_n 2, 1) := by decide +kernel
theorem dL_pages_77 : decode cL_pages 77 = .ok (.ireturn, 1) := by decide +kernel
theorem dL_all_0 : decode cL_all 0 = .ok (.iconst 0, 1) := by decide +kernel
theorem dL_all_1 : decode cL_all 1 = .ok (.istore_n 2, 1) := by decide +kernel
theorem dL_all_2 : decode cL_all 2 = .ok (.iload_n 2, 1) := by decide +kernel
theorem dL_all_3 : decode cL_all 3 = .ok (.bipush 64, 2) := by decide +kernel
theorem dL_all_5 : decode cL_all 5 = .ok (.if_icmp .ge 26, 3) := by decide +kernel
theorem dL_all_8 : decode cL_all 8 = .ok (.aload_n 1, 1) := by decide +kernel
theorem dL_all_9 : decode cL_all 9 = .ok (.iload_n 2, 1) := by decide +kernel
theorem dL_all_10 : decode cL_all 10 = .ok (.aload_n 0, 1) := by decide +kernel
theorem dL_all_11 : decode cL_all 11 = .ok (.iload_n 2, 1) := by decide +kernel
theorem dL_all_12 : decode cL_all 12 = .ok (.iconst 0, 1) := by decide +kernel
theorem dL_all_13 : decode cL_all 13 = .ok (.invokevirtual 37, 3) := by decide +kernel
theorem dL_all_16 : decode cL_all 16 = .ok (.ifCond .ge 7, 3) := by decide +kernel
theorem dL_all_19 : decode cL_all 19 = .ok (.iconst 0, 1) := by decide +kernel
theorem dL_all_20 : decode cL_all 20 = .ok (.goto 4, 3) := by decide +kernel
theorem dL_all_23 : decode cL_all 23 = .ok (.iconst 1, 1) := by decide +kernel
theorem dL_all_24 : decode cL_all 24 = .ok (.iastore, 1) := by decide +kernel
theorem dL_all_25 : decode cL_all 25 = .ok (.iinc 2 1, 3) := by decide +kernel
theorem dL_all_28 : decode cL_all 28 = .ok (.goto (-26), 3) := by decide +kernel
theorem dL_all_31 : decode cL_all 31 = .ok (.return_, 1) := by decide +kernel
theorem dL_looks_0 : decode cL_looks 0 = .ok (.bipush 64, 2) := by decide +kernel
theorem dL_looks_2 : decode cL_looks 2 = .ok (.newarray .int, 2) := by decide +kernel
theorem dL_looks_4 : decode cL_looks 4 = .ok (.astore 6, 2) := by decide +kernel
theorem dL_looks_6 : decode cL_looks 6 = .ok (.aload_n 0, 1) := by decide +kernel
theorem dL_looks_7 : decode cL_looks 7 = .ok (.aload 6, 2) := by decide +kernel
theorem dL_looks_9 : decode cL_looks 9 = .ok (.invokestatic 67, 3) := by decide +kernel
theorem dL_looks_12 : decode cL_looks 12 = .ok (.aload_n 1, 1) := by decide +kernel
theorem dL_looks_13 : decode cL_looks 13 = .ok (.bipush 56, 2) := by decide +kernel
theorem dL_looks_15 : decode cL_looks 15 = .ok (.iload_n 2, 1) := by decide +kernel
theorem dL_looks_16 : decode cL_looks 16 = .ok (.iadd, 1) := by decide +kernel
theorem dL_looks_17 : decode cL_looks 17 = .ok (.iaload, 1) := by decide +kernel
theorem dL_looks_18 : decode cL_looks 18 = .ok (.istore 7, 2) := by decide +kernel
theorem dL_looks_20 : decode cL_looks 20 = .ok (.iload 7, 2) := by decide +kernel
theorem dL_looks_22 : decode cL_looks 22 = .ok (.iconst 4, 1) := by decide +kernel
theorem dL_looks_23 : decode cL_looks 23 = .ok (.if_icmp .ge 17, 3) := by decide +kernel
theorem dL_looks_26 : decode cL_looks 26 = .ok (.aload_n 1, 1) := by decide +kernel
theorem dL_looks_27 : decode cL_looks 27 = .ok (.iload_n 2, 1) := by decide +kernel
theorem dL_looks_28 : decode cL_looks 28 = .ok (.iload 7, 2) := by decide +kernel
theorem dL_looks_30 : decode cL_looks 30 = .ok (.invokestatic 43, 3) := by decide +kernel
theorem dL_looks_33 : decode cL_looks 33 = .ok (.ifCond .ne 7, 3) := by decide +kernel
theorem dL_looks_36 : decode cL_looks 36 = .ok (.iconst 1, 1) := by decide +kernel
theorem dL_looks_37 : decode cL_looks 37 = .ok (.goto 4, 3) := by decide +kernel
theorem dL_looks_40 : decode cL_looks 40 = .ok (.iconst 0, 1) := by decide +kernel
theorem dL_looks_41 : decode cL_looks 41 = .ok (.istore 8, 2) := by decide +kernel
theorem dL_looks_43 : decode cL_looks 43 = .ok (.iload_n 3, 1) := by decide +kernel
theorem dL_looks_44 : decode cL_looks 44 = .ok (.ifCond .ne 23, 3) := by decide +kernel
theorem dL_looks_47 : decode cL_looks 47 = .ok (.aload 6, 2) := by decide +kernel
theorem dL_looks_49 : decode cL_looks 49 = .ok (.iload 4, 2) := by decide +kernel
theorem dL_looks_51 : decode cL_looks 51 = .ok (.invokestatic 71, 3) := by decide +kernel
theorem dL_looks_54 : decode cL_looks 54 = .ok (.iload 8, 2) := by decide +kernel
theorem dL_looks_56 : decode cL_looks 56 = .ok (.ifCond .eq 8, 3) := by decide +kernel
theorem dL_looks_59 : decode cL_looks 59 = .ok (.iload 5, 2) := by decide +kernel
theorem dL_looks_61 : decode cL_looks 61 = .ok (.goto 4, 3) := by decide +kernel
theorem dL_looks_64 : decode cL_looks 64 = .ok (.iconst 0, 1) := by decide +kernel
theorem dL_looks_65 : decode cL_looks 65 = .ok (.iadd, 1) := by decide +kernel
theorem dL_looks_66 : decode cL_looks 66 = .ok (.ireturn, 1) := by decide +kernel
theorem dL_looks_67 : decode cL_looks 67 = .ok (.iload_n 3, 1) := by decide +kernel
theorem dL_looks_68 : decode cL_looks 68 = .ok (.bipush 99, 2) := by decide +kernel
theorem dL_looks_70 : decode cL_looks 70 = .ok (.if_icmp .le 60, 3) := by decide +kernel
theorem dL_looks_73 : decode cL_looks 73 = .ok (.aload_n 0, 1) := by decide +kernel
theorem dL_looks_74 : decode cL_looks 74 = .ok (.aload_n 1, 1) := by decide +kernel
theorem dL_looks_75 : decode cL_looks 75 = .ok (.iload_n 2, 1) := by decide +kernel
theorem dL_looks_76 : decode cL_looks 76 = .ok (.iload_n 3, 1) := by decide +kernel
theorem dL_looks_77 : decode cL_looks 77 = .ok (.bipush 10, 2) := by decide +kernel
theorem dL_looks_79 : decode cL_looks 79 = .ok (.idiv, 1) := by decide +kernel
theorem dL_looks_80 : decode cL_looks 80 = .ok (.bipush 10, 2) := by decide +kernel
theorem dL_looks_82 : decode cL_looks 82 = .ok (.irem, 1) := by decide +kernel
theorem dL_looks_83 : decode cL_looks 83 = .ok (.aload 6, 2) := by decide +kernel
theorem dL_looks_85 : decode cL_looks 85 = .ok (.invokestatic 75, 3) := by decide +kernel
theorem dL_looks_88 : decode cL_looks 88 = .ok (.istore 9, 2) := by decide +kernel
theorem dL_looks_90 : decode cL_looks 90 = .ok (.iload 9, 2) := by decide +kernel
theorem dL_looks_92 : decode cL_looks 92 = .ok (.aload_n 0, 1) := by decide +kernel
theorem dL_looks_93 : decode cL_looks 93 = .ok (.aload_n 1, 1) := by decide +kernel
theorem dL_looks_94 : decode cL_looks 94 = .ok (.iload_n 2, 1) := by decide +kernel
theorem dL_looks_95 : decode cL_looks 95 = .ok (.iload_n 3, 1) := by decide +kernel
theorem dL_looks_96 : decode cL_looks 96 = .ok (.bipush 10, 2) := by decide +kernel
theorem dL_looks_98 : decode cL_looks 98 = .ok (.irem, 1) := by decide +kernel
theorem dL_looks_99 : decode cL_looks 99 = .ok (.aload 6, 2) := by decide +kernel
theorem dL_looks_101 : decode cL_looks 101 = .ok (.invokestatic 75, 3) := by decide +kernel
theorem dL_looks_104 : decode cL_looks 104 = .ok (.iadd, 1) := by decide +kernel
theorem dL_looks_105 : decode cL_looks 105 = .ok (.istore 9, 2) := by decide +kernel
theorem dL_looks_107 : decode cL_looks 107 = .ok (.iload 9, 2) := by decide +kernel
theorem dL_looks_109 : decode cL_looks 109 = .ok (.aload 6, 2) := by decide +kernel
theorem dL_looks_111 : decode cL_looks 111 = .ok (.iload 4, 2) := by decide +kernel
theorem dL_looks_113 : decode cL_looks 113 = .ok (.invokestatic 71, 3) := by decide +kernel
theorem dL_looks_116 : decode cL_looks 116 = .ok (.iadd, 1) := by decide +kernel
theorem dL_looks_117 : decode cL_looks 117 = .ok (.iload 8, 2) := by decide +kernel
theorem dL_looks_119 : decode cL_looks 119 = .ok (.ifCond .eq 8, 3) := by decide +kernel
theorem dL_looks_122 : decode cL_looks 122 = .ok (.iload 5, 2) := by decide +kernel
theorem dL_looks_124 : decode cL_looks 124 = .ok (.goto 4, 3) := by decide +kernel
theorem dL_looks_127 : decode cL_looks 127 = .ok (.iconst 0, 1) := by decide +kernel
theorem dL_looks_128 : decode cL_looks 128 = .ok (.iadd, 1) := by decide +kernel
theorem dL_looks_129 : decode cL_looks 129 = .ok (.ireturn, 1) := by decide +kernel
theorem dL_looks_130 : decode cL_looks 130 = .ok (.aload_n 0, 1) := by decide +kernel
theorem dL_looks_131 : decode cL_looks 131 = .ok (.iload_n 3, 1) := by decide +kernel
theorem dL_looks_132 : decode cL_looks 132 = .ok (.iconst 1, 1) := by decide +kernel
theorem dL_looks_133 : decode cL_looks 133 = .ok (.isub, 1) := by decide +kernel
theorem dL_looks_134 : decode cL_looks 134 = .ok (.iconst 0, 1) := by decide +kernel
theorem dL_looks_135 : decode cL_looks 135 = .ok (.invokevirtual 50, 3) := by decide +kernel
theorem dL_looks_138 : decode cL_looks 138 = .ok (.istore 9, 2) := by decide +kernel
theorem dL_looks_140 : decode cL_looks 140 = .ok (.aload_n 0, 1) := by decide +kernel
theorem dL_looks_141 : decode cL_looks 141 = .ok (.aload_n 1, 1) := by decide +kernel
theorem dL_looks_142 : decode cL_looks 142 = .ok (.iload_n 2, 1) := by decide +kernel
theorem dL_looks_143 : decode cL_looks 143 = .ok (.iload_n 3, 1) := by decide +kernel
theorem dL_looks_144 : decode cL_looks 144 = .ok (.iconst 1, 1) := by decide +kernel
theorem dL_looks_145 : decode cL_looks 145 = .ok (.isub, 1) := by decide +kernel
theorem dL_looks_146 : decode cL_looks 146 = .ok (.aload 6, 2) := by decide +kernel
theorem dL_looks_148 : decode cL_looks 148 = .ok (.invokestatic 75, 3) := by decide +kernel
theorem dL_looks_151 : decode cL_looks 151 = .ok (.istore 10, 2) := by decide +kernel
theorem dL_looks_153 : decode cL_looks 153 = .ok (.iconst 1, 1) := by decide +kernel
theorem dL_looks_154 : decode cL_looks 154 = .ok (.istore 11, 2) := by decide +kernel
theorem dL_looks_156 : decode cL_looks 156 = .ok (.iconst 0, 1) := by decide +kernel
theorem dL_looks_157 : decode cL_looks 157 = .ok (.istore 12, 2) := by decide +kernel
theorem dL_looks_159 : decode cL_looks 159 = .ok (.iload 12, 2) := by decide +kernel
theorem dL_looks_161 : decode cL_looks 161 = .ok (.iconst 4, 1) := by decide +kernel
theorem dL_looks_162 : decode cL_looks 162 = .ok (.if_icmp .ge 110, 3) := by decide +kernel
theorem dL_looks_165 : decode cL_looks 165 = .ok (.aload_n 1, 1) := by decide +kernel
theorem dL_looks_166 : decode cL_looks 166 = .ok (.iload_n 2, 1) := by decide +kernel
theorem dL_looks_167 : decode cL_looks 167 = .ok (.iload 12, 2) := by decide +kernel
theorem dL_looks_169 : decode cL_looks 169 = .ok (.invokestatic 47, 3) := by decide +kernel
theorem dL_looks_172 : decode cL_looks 172 = .ok (.ifCond .ne 25, 3) := by decide +kernel
theorem dL_looks_175 : decode cL_looks 175 = .ok (.aload_n 1, 1) := by decide +kernel
theorem dL_looks_176 : decode cL_looks 176 = .ok (.bipush 48, 2) := by decide +kernel
theorem dL_looks_178 : decode cL_looks 178 = .ok (.iload_n 2, 1) := by decide +kernel
theorem dL_looks_179 : decode cL_looks 179 = .ok (.iadd, 1) := by decide +kernel
theorem dL_looks_180 : decode cL_looks 180 = .ok (.iaload, 1) := by decide +kernel
theorem dL_looks_181 : decode cL_looks 181 = .ok (.iload 12, 2) := by decide +kernel
theorem dL_looks_183 : decode cL_looks 183 = .ok (.ishr, 1) := by decide +kernel
theorem dL_looks_184 : decode cL_looks 184 = .ok (.iconst 1, 1) := by decide +kernel
theorem dL_looks_185 : decode cL_looks 185 = .ok (.iand, 1) := by decide +kernel
theorem dL_looks_186 : decode cL_looks 186 = .ok (.iconst 1, 1) := by decide +kernel
theorem dL_looks_187 : decode cL_looks 187 = .ok (.if_icmp .eq 10, 3) := by decide +kernel
theorem dL_looks_190 : decode cL_looks 190 = .ok (.iload 7, 2) := by decide +kernel
theorem dL_looks_192 : decode cL_looks 192 = .ok (.iload 12, 2) := by decide +kernel
theorem dL_looks_194 : decode cL_looks 194 = .ok (.if_icmp .ne 7, 3) := by decide +kernel
theorem dL_looks_197 : decode cL_looks 197 = .ok (.iconst 1, 1) := by decide +kernel
theorem dL_looks_198 : decode cL_looks 198 = .ok (.goto 4, 3) := by decide +kernel
theorem dL_looks_201 : decode cL_looks 201 = .ok (.iconst 0, 1) := by decide +kernel
theorem dL_looks_202 : decode cL_looks 202 = .ok (.istore 13, 2) := by decide +kernel
theorem dL_looks_204 : decode cL_looks 204 = .ok (.iload 9, 2) := by decide +kernel
theorem dL_looks_206 : decode cL_looks 206 = .ok (.iconst 0, 1) := by decide +kernel
theorem dL_looks_207 : decode cL_looks 207 = .ok (.invokestatic 40, 3) := by decide +kernel
theorem dL_looks_210 : decode cL_looks 210 = .ok (.iload 12, 2) := by decide +kernel
theorem dL_looks_212 : decode cL_looks 212 = .ok (.if_icmp .eq 25, 3) := by decide +kernel
theorem dL_looks_215 : decode cL_looks 215 = .ok (.iload 9, 2) := by decide +kernel
theorem dL_looks_217 : decode cL_looks 217 = .ok (.iconst 1, 1) := by decide +kernel
theorem dL_looks_218 : decode cL_looks 218 = .ok (.invokestatic 40, 3) := by decide +kernel
theorem dL_looks_221 : decode cL_looks 221 = .ok (.iload 12, 2) := by decide +kernel
theorem dL_looks_223 : decode cL_looks 223 = .ok (.if_icmp .eq 14, 3) := by decide +kernel
theorem dL_looks_226 : decode cL_looks 226 = .ok (.iload 9, 2) := by decide +kernel
theorem dL_looks_228 : decode cL_looks 228 = .ok (.iconst 2, 1) := by decide +kernel
theorem dL_looks_229 : decode cL_looks 229 = .ok (.invokestatic 40, 3) := by decide +kernel
theorem dL_looks_232 : decode cL_looks 232 = .ok (.iload 12, 2) := by decide +kernel
theorem dL_looks_234 : decode cL_looks 234 = .ok (.if_icmp .ne 7, 3) := by decide +kernel
theorem dL_looks_237 : decode cL_looks 237 = .ok (.iconst 1, 1) := by decide +kernel
theorem dL_looks_238 : decode cL_looks 238 = .ok (.goto 4, 3) := by decide +kernel
theorem dL_looks_241 : decode cL_looks 241 = .ok (.iconst 0, 1) := by decide +kernel
theorem dL_looks_242 : decode cL_looks 242 = .ok (.istore 14, 2) := by decide +kernel
theorem dL_looks_244 : decode cL_looks 244 = .ok (.iload 11, 2) := by decide +kernel
theorem dL_looks_246 : decode cL_looks 246 = .ok (.ifCond .eq 17, 3) := by decide +kernel
theorem dL_looks_249 : decode cL_looks 249 = .ok (.iload 13, 2) := by decide +kernel
theorem dL_looks_251 : decode cL_looks 251 = .ok (.ifCond .eq 8, 3) := by decide +kernel
theorem dL_looks_254 : decode cL_looks 254 = .ok (.iload 14, 2) := by decide +kernel
theorem dL_looks_256 : decode cL_looks 256 = .ok (.ifCond .eq 7, 3) := by decide +kernel
theorem dL_looks_259 : decode cL_looks 259 = .ok (.iconst 1, 1) := by decide +kernel
theorem dL_looks_260 : decode cL_looks 260 = .ok (.goto 4, 3) := by decide +kernel
theorem dL_looks_263 : decode cL_looks 263 = .ok (.iconst 0, 1) := by decide +kernel
theorem dL_looks_264 : decode cL_looks 264 = .ok (.istore 11, 2) := by decide +kernel
theorem dL_looks_266 : decode cL_looks 266 = .ok (.iinc 12 1, 3) := by decide +kernel
theorem dL_looks_269 : decode cL_looks 269 = .ok (.goto (-110), 3) := by decide +kernel
theorem dL_looks_272 : decode cL_looks 272 = .ok (.iload 10, 2) := by decide +kernel
theorem dL_looks_274 : decode cL_looks 274 = .ok (.iload 11, 2) := by decide +kernel
theorem dL_looks_276 : decode cL_looks 276 = .ok (.ifCond .eq 7, 3) := by decide +kernel
theorem dL_looks_279 : decode cL_looks 279 = .ok (.iconst 0, 1) := by decide +kernel
theorem dL_looks_280 : decode cL_looks 280 = .ok (.goto 10, 3) := by decide +kernel
theorem dL_looks_283 : decode cL_looks 283 = .ok (.aload 6, 2) := by decide +kernel
theorem dL_looks_285 : decode cL_looks 285 = .ok (.iload 4, 2) := by decide +kernel
theorem dL_looks_287 : decode cL_looks 287 = .ok (.invokestatic 71, 3) := by decide +kernel
theorem dL_looks_290 : decode cL_looks 290 = .ok (.iadd, 1) := by decide +kernel
theorem dL_looks_291 : decode cL_looks 291 = .ok (.istore 10, 2) := by decide +kernel
theorem dL_looks_293 : decode cL_looks 293 = .ok (.iload 9, 2) := by decide +kernel
theorem dL_looks_295 : decode cL_looks 295 = .ok (.aload_n 1, 1) := by decide +kernel
theorem dL_looks_296 : decode cL_looks 296 = .ok (.iload_n 2, 1) := by decide +kernel
theorem dL_looks_297 : decode cL_looks 297 = .ok (.iload 9, 2) := by decide +kernel
theorem dL_looks_299 : decode cL_looks 299 = .ok (.invokestatic 53, 3) := by decide +kernel
theorem dL_looks_302 : decode cL_looks 302 = .ok (.bipush 8, 2) := by decide +kernel
theorem dL_looks_304 : decode cL_looks 304 = .ok (.idiv, 1) := by decide +kernel
theorem dL_looks_305 : decode cL_looks 305 = .ok (.invokestatic 40, 3) := by decide +kernel
theorem dL_looks_308 : decode cL_looks 308 = .ok (.iload 7, 2) := by decide +kernel
theorem dL_looks_310 : decode cL_looks 310 = .ok (.if_icmp .ne 7, 3) := by decide +kernel
theorem dL_looks_313 : decode cL_looks 313 = .ok (.iconst 1, 1) := by decide +kernel
theorem dL_looks_314 : decode cL_looks 314 = .ok (.goto 4, 3) := by decide +kernel
theorem dL_looks_317 : decode cL_looks 317 = .ok (.iconst 0, 1) := by decide +kernel
theorem dL_looks_318 : decode cL_looks 318 = .ok (.istore 12, 2) := by decide +kernel
theorem dL_looks_320 : decode cL_looks 320 = .ok (.iload 10, 2) := by decide +kernel
theorem dL_looks_322 : decode cL_looks 322 = .ok (.iload 8, 2) := by decide +kernel
theorem dL_looks_324 : decode cL_looks 324 = .ok (.ifCond .eq 13, 3) := by decide +kernel
theorem dL_looks_327 : decode cL_looks 327 = .ok (.iload 12, 2) := by decide +kernel
theorem dL_looks_329 : decode cL_looks 329 = .ok (.ifCond .ne 8, 3) := by decide +kernel
theorem dL_looks_332 : decode cL_looks 332 = .ok (.iload 5, 2) := by decide +kernel
theorem dL_looks_334 : decode cL_looks 334 = .ok (.goto 4, 3) := by decide +kernel
theorem dL_looks_337 : decode cL_looks 337 = .ok (.iconst 0, 1) := by decide +kernel
theorem dL_looks_338 : decode cL_looks 338 = .ok (.iadd, 1) := by decide +kernel
theorem dL_looks_339 : decode cL_looks 339 = .ok (.ireturn, 1) := by decide +kernel
theorem dL_law_0 : decode cL_law 0 = .ok (.new 9, 3) := by decide +kernel
theorem dL_law_3 : decode cL_law 3 = .ok (.dup, 1) := by decide +kernel
theorem dL_law_4 : decode cL_law 4 = .ok (.invokespecial 79, 3) := by decide +kernel
theorem dL_law_7 : decode cL_law 7 = .ok (.astore_n 1, 1) := by decide +kernel
theorem dL_law_8 : decode cL_law 8 = .ok (.iconst 2, 1) := by decide +kernel
theorem dL_law_9 : decode cL_law 9 = .ok (.aload_n 0, 1) := by decide +kernel
theorem dL_law_10 : decode cL_law 10 = .ok (.iconst 0, 1) := by decide +kernel
theorem dL_law_11 : decode cL_law 11 = .ok (.invokestatic 80, 3) := by decide +kernel
theorem dL_law_14 : decode cL_law 14 = .ok (.bipush 7, 2) := by decide +kernel
theorem dL_law_16 : decode cL_law 16 = .ok (.irem, 1) := by decide +kernel
theorem dL_law_17 : decode cL_law 17 = .ok (.iadd, 1) := by decide +kernel
theorem dL_law_18 : decode cL_law 18 = .ok (.istore_n 2, 1) := by decide +kernel
theorem dL_law_19 : decode cL_law 19 = .ok (.iconst 2, 1) := by decide +kernel
theorem dL_law_20 : decode cL_law 20 = .ok (.aload_n 0, 1) := by decide +kernel
theorem dL_law_21 : decode cL_law 21 = .ok (.iconst 1, 1) := by decide +kernel
theorem dL_law_22 : decode cL_law 22 = .ok (.invokestatic 80, 3) := by decide +kernel
theorem dL_law_25 : decode cL_law 25 = .ok (.bipush 22, 2) := by decide +kernel
theorem dL_law_27 : decode cL_law 27 = .ok (.irem, 1) := by decide +kernel
theorem dL_law_28 : decode cL_law 28 = .ok (.iadd, 1) := by decide +kernel
theorem dL_law_29 : decode cL_law 29 = .ok (.istore_n 3, 1) := by decide +kernel
theorem dL_law_30 : decode cL_law 30 = .ok (.iconst 1, 1) := by decide +kernel
theorem dL_law_31 : decode cL_law 31 = .ok (.aload_n 0, 1) := by decide +kernel
theorem dL_law_32 : decode cL_law 32 = .ok (.iconst 2, 1) := by decide +kernel
theorem dL_law_33 : decode cL_law 33 = .ok (.invokestatic 80, 3) := by decide +kernel
theorem dL_law_36 : decode cL_law 36 = .ok (.bipush 24, 2) := by decide +kernel
theorem dL_law_38 : decode cL_law 38 = .ok (.irem, 1) := by decide +kernel
theorem dL_law_39 : decode cL_law 39 = .ok (.iadd, 1) := by decide +kernel
theorem dL_law_40 : decode cL_law 40 = .ok (.istore 4, 2) := by decide +kernel
theorem dL_law_42 : decode cL_law 42 = .ok (.aload_n 1, 1) := by decide +kernel
theorem dL_law_43 : decode cL_law 43 = .ok (.iload_n 2, 1) := by decide +kernel
theorem dL_law_44 : decode cL_law 44 = .ok (.invokevirtual 83, 3) := by decide +kernel
theorem dL_law_47 : decode cL_law 47 = .ok (.iconst 4, 1) := by decide +kernel
theorem dL_law_48 : decode cL_law 48 = .ok (.if_icmp .ne 20, 3) := by decide +kernel
theorem dL_law_51 : decode cL_law 51 = .ok (.aload_n 1, 1) := by decide +kernel
theorem dL_law_52 : decode cL_law 52 = .ok (.aload_n 0, 1) := by decide +kernel
theorem dL_law_53 : decode cL_law 53 = .ok (.iconst 3, 1) := by decide +kernel
theorem dL_law_54 : decode cL_law 54 = .ok (.invokestatic 80, 3) := by decide +kernel
theorem dL_law_57 : decode cL_law 57 = .ok (.iload 4, 2) := by decide +kernel
theorem dL_law_59 : decode cL_law 59 = .ok (.iload_n 3, 1) := by decide +kernel
theorem dL_law_60 : decode cL_law 60 = .ok (.invokevirtual 86, 3) := by decide +kernel
theorem dL_law_63 : decode cL_law 63 = .ok (.iload 4, 2) := by decide +kernel
theorem dL_law_65 : decode cL_law 65 = .ok (.if_icmp .eq 5, 3) := by decide +kernel
theorem dL_law_68 : decode cL_law 68 = .ok (.iconst 0, 1) := by decide +kernel
theorem dL_law_69 : decode cL_law 69 = .ok (.ireturn, 1) := by decide +kernel
theorem dL_law_70 : decode cL_law 70 = .ok (.aload_n 0, 1) := by decide +kernel
theorem dL_law_71 : decode cL_law 71 = .ok (.iconst 4, 1) := by decide +kernel
theorem dL_law_72 : decode cL_law 72 = .ok (.invokestatic 80, 3) := by decide +kernel
theorem dL_law_75 : decode cL_law 75 = .ok (.iconst 4, 1) := by decide +kernel
theorem dL_law_76 : decode cL_law 76 = .ok (.irem, 1) := by decide +kernel
theorem dL_law_77 : decode cL_law 77 = .ok (.istore 5, 2) := by decide +kernel
theorem dL_law_79 : decode cL_law 79 = .ok (.iconst 0, 1) := by decide +kernel
theorem dL_law_80 : decode cL_law 80 = .ok (.istore 6, 2) := by decide +kernel
theorem dL_law_82 : decode cL_law 82 = .ok (.iconst 0, 1) := by decide +kernel
theorem dL_law_83 : decode cL_law 83 = .ok (.istore 7, 2) := by decide +kernel
theorem dL_law_85 : decode cL_law 85 = .ok (.iload 7, 2) := by decide +kernel
theorem dL_law_87 : decode cL_law 87 = .ok (.iload 5, 2) := by decide +kernel
theorem dL_law_89 : decode cL_law 89 = .ok (.if_icmp .ge 39, 3) := by decide +kernel
theorem dL_law_92 : decode cL_law 92 = .ok (.iload 6, 2) := by decide +kernel
theorem dL_law_94 : decode cL_law 94 = .ok (.aload_n 1, 1) := by decide +kernel
theorem dL_law_95 : decode cL_law 95 = .ok (.aload_n 0, 1) := by decide +kernel
theorem dL_law_96 : decode cL_law 96 = .ok (.iconst 5, 1) := by decide +kernel
theorem dL_law_97 : decode cL_law 97 = .ok (.iload 7, 2) := by decide +kernel
theorem dL_law_99 : decode cL_law 99 = .ok (.iadd, 1) := by decide +kernel
theorem dL_law_100 : decode cL_law 100 = .ok (.invokestatic 80, 3) := by decide +kernel
theorem dL_law_103 : decode cL_law 103 = .ok (.invokestatic 90, 3) := by decide +kernel
theorem dL_law_106 : decode cL_law 106 = .ok (.invokevirtual 93, 3) := by decide +kernel
theorem dL_law_109 : decode cL_law 109 = .ok (.iload 6, 2) := by decide +kernel
theorem dL_law_111 : decode cL_law 111 = .ok (.if_icmp .ne 7, 3) := by decide +kernel
theorem dL_law_114 : decode cL_law 114 = .ok (.iconst 1, 1) := by decide +kernel
theorem dL_law_115 : decode cL_law 115 = .ok (.goto 4, 3) := by decide +kernel
theorem dL_law_118 : decode cL_law 118 = .ok (.iconst 0, 1) := by decide +kernel
theorem dL_law_119 : decode cL_law 119 = .ok (.iadd, 1) := by decide +kernel
theorem dL_law_120 : decode cL_law 120 = .ok (.istore 6, 2) := by decide +kernel
theorem dL_law_122 : decode cL_law 122 = .ok (.iinc 7 1, 3) := by decide +kernel
theorem dL_law_125 : decode cL_law 125 = .ok (.goto (-40), 3) := by decide +kernel
theorem dL_law_128 : decode cL_law 128 = .ok (.iconst 0, 1) := by decide +kernel
theorem dL_law_129 : decode cL_law 129 = .ok (.istore 7, 2) := by decide +kernel
theorem dL_law_131 : decode cL_law 131 = .ok (.iload 7, 2) := by decide +kernel
theorem dL_law_133 : decode cL_law 133 = .ok (.bipush 6, 2) := by decide +kernel
theorem dL_law_135 : decode cL_law 135 = .ok (.if_icmp .ge 97, 3) := by decide +kernel
theorem dL_law_138 : decode cL_law 138 = .ok (.aload_n 0, 1) := by decide +kernel
theorem dL_law_139 : decode cL_law 139 = .ok (.bipush 9, 2) := by decide +kernel
theorem dL_law_141 : decode cL_law 141 = .ok (.iload 7, 2) := by decide +kernel
theorem dL_law_143 : decode cL_law 143 = .ok (.iadd, 1) := by decide +kernel
theorem dL_law_144 : decode cL_law 144 = .ok (.invokestatic 80, 3) := by decide +kernel
theorem dL_law_147 : decode cL_law 147 = .ok (.istore 8, 2) := by decide +kernel
theorem dL_law_149 : decode cL_law 149 = .ok (.iload 8, 2) := by decide +kernel
theorem dL_law_151 : decode cL_law 151 = .ok (.bipush 64, 2) := by decide +kernel
theorem dL_law_153 : decode cL_law 153 = .ok (.irem, 1) := by decide +kernel
theorem dL_law_154 : decode cL_law 154 = .ok (.istore 9, 2) := by decide +kernel
theorem dL_law_156 : decode cL_law 156 = .ok (.aload_n 1, 1) := by decide +kernel
theorem dL_law_157 : decode cL_law 157 = .ok (.iload 9, 2) := by decide +kernel
theorem dL_law_159 : decode cL_law 159 = .ok (.iconst 0, 1) := by decide +kernel
theorem dL_law_160 : decode cL_law 160 = .ok (.invokevirtual 37, 3) := by decide +kernel
theorem dL_law_163 : decode cL_law 163 = .ok (.ifCond .lt 24, 3) := by decide +kernel
theorem dL_law_166 : decode cL_law 166 = .ok (.iload 8, 2) := by decide +kernel
theorem dL_law_168 : decode cL_law 168 = .ok (.bipush 64, 2) := by decide +kernel
theorem dL_law_170 : decode cL_law 170 = .ok (.idiv, 1) := by decide +kernel
theorem dL_law_171 : decode cL_law 171 = .ok (.iconst 3, 1) := by decide +kernel
theorem dL_law_172 : decode cL_law 172 = .ok (.irem, 1) := by decide +kernel
theorem dL_law_173 : decode cL_law 173 = .ok (.ifCond .ne 14, 3) := by decide +kernel
theorem dL_law_176 : decode cL_law 176 = .ok (.aload_n 1, 1) := by decide +kernel
theorem dL_law_177 : decode cL_law 177 = .ok (.iload 9, 2) := by decide +kernel
theorem dL_law_179 : decode cL_law 179 = .ok (.invokevirtual 96, 3) := by decide +kernel
theorem dL_law_182 : decode cL_law 182 = .ok (.ifCond .ge 44, 3) := by decide +kernel
theorem dL_law_185 : decode cL_law 185 = .ok (.iconst 0, 1) := by decide +kernel
theorem dL_law_186 : decode cL_law 186 = .ok (.ireturn, 1) := by decide +kernel
theorem dL_law_187 : decode cL_law 187 = .ok (.aload_n 1, 1) := by decide +kernel
theorem dL_law_188 : decode cL_law 188 = .ok (.iload 8, 2) := by decide +kernel
theorem dL_law_190 : decode cL_law 190 = .ok (.bipush 64, 2) := by decide +kernel
theorem dL_law_192 : decode cL_law 192 = .ok (.idiv, 1) := by decide +kernel
theorem dL_law_193 : decode cL_law 193 = .ok (.iload_n 3, 1) := by decide +kernel
theorem dL_law_194 : decode cL_law 194 = .ok (.irem, 1) := by decide +kernel
theorem dL_law_195 : decode cL_law 195 = .ok (.iload 8, 2) := by decide +kernel
theorem dL_law_197 : decode cL_law 197 = .ok (.sipush 512, 3) := by decide +kernel
theorem dL_law_200 : decode cL_law 200 = .ok (.idiv, 1) := by decide +kernel
theorem dL_law_201 : decode cL_law 201 = .ok (.iload_n 3, 1) := by decide +kernel
theorem dL_law_202 : decode cL_law 202 = .ok (.irem, 1) := by decide +kernel
theorem dL_law_203 : decode cL_law 203 = .ok (.iload 8, 2) := by decide +kernel
theorem dL_law_205 : decode cL_law 205 = .ok (.sipush 4096, 3) := by decide +kernel
theorem dL_law_208 : decode cL_law 208 = .ok (.idiv, 1) := by decide +kernel
theorem dL_law_209 : decode cL_law 209 = .ok (.iload_n 3, 1) := by decide +kernel
theorem dL_law_210 : decode cL_law 210 = .ok (.irem, 1) := by decide +kernel
theorem dL_law_211 : decode cL_law 211 = .ok (.iload 8, 2) := by decide +kernel
theorem dL_law_213 : decode cL_law 213 = .ok (.ldc 99, 2) := by decide +kernel
theorem dL_law_215 : decode cL_law 215 = .ok (.idiv, 1) := by decide +kernel
theorem dL_law_216 : decode cL_law 216 = .ok (.iload_n 3, 1) := by decide +kernel
theorem dL_law_217 : decode cL_law 217 = .ok (.irem, 1) := by decide +kernel
theorem dL_law_218 : decode cL_law 218 = .ok (.invokevirtual 100, 3) := by decide +kernel
theorem dL_law_221 : decode cL_law 221 = .ok (.ifCond .ge 5, 3) := by decide +kernel
theorem dL_law_224 : decode cL_law 224 = .ok (.iconst 0, 1) := by decide +kernel
theorem dL_law_225 : decode cL_law 225 = .ok (.ireturn, 1) := by decide +kernel
theorem dL_law_226 : decode cL_law 226 = .ok (.iinc 7 1, 3) := by decide +kernel
theorem dL_law_229 : decode cL_law 229 = .ok (.goto (-98), 3) := by decide +kernel
theorem dL_law_232 : decode cL_law 232 = .ok (.iconst 1, 1) := by decide +kernel
theorem dL_law_233 : decode cL_law 233 = .ok (.aload_n 0, 1) := by decide +kernel
theorem dL_law_234 : decode cL_law 234 = .ok (.bipush 15, 2) := by decide +kernel
theorem dL_law_236 : decode cL_law 236 = .ok (.invokestatic 80, 3) := by decide +kernel
theorem dL_law_239 : decode cL_law 239 = .ok (.iconst 3, 1) := by decide +kernel
theorem dL_law_240 : decode cL_law 240 = .ok (.irem, 1) := by decide +kernel
theorem dL_law_241 : decode cL_law 241 = .ok (.iadd, 1) := by decide +kernel
theorem dL_law_242 : decode cL_law 242 = .ok (.istore 7, 2) := by decide +kernel
theorem dL_law_244 : decode cL_law 244 = .ok (.bipush 64, 2) := by decide +kernel
theorem dL_law_246 : decode cL_law 246 = .ok (.newarray .int, 2) := by decide +kernel
theorem dL_law_248 : decode cL_law 248 = .ok (.astore 8, 2) := by decide +kernel
theorem dL_law_250 : decode cL_law 250 = .ok (.iconst 4, 1) := by decide +kernel
theorem dL_law_251 : decode cL_law 251 = .ok (.newarray .int, 2) := by decide +kernel
theorem dL_law_253 : decode cL_law 253 = .ok (.astore 9, 2) := by decide +kernel
theorem dL_law_255 : decode cL_law 255 = .ok (.iconst 4, 1) := by decide +kernel
theorem dL_law_256 : decode cL_law 256 = .ok (.newarray .int, 2) := by decide +kernel
theorem dL_law_258 : decode cL_law 258 = .ok (.astore 10, 2) := by decide +kernel
theorem dL_law_260 : decode cL_law 260 = .ok (.iconst 0, 1) := by decide +kernel
theorem dL_law_261 : decode cL_law 261 = .ok (.istore 11, 2) := by decide +kernel
theorem dL_law_263 : decode cL_law 263 = .ok (.iload 11, 2) := by decide +kernel
theorem dL_law_265 : decode cL_law 265 = .ok (.iload 7, 2) := by decide +kernel
theorem dL_law_267 : decode cL_law 267 = .ok (.if_icmp .ge 332, 3) := by decide +kernel
theorem dL_law_270 : decode cL_law 270 = .ok (.aload 9, 2) := by decide +kernel
theorem dL_law_272 : decode cL_law 272 = .ok (.iload 11, 2) := by decide +kernel
theorem dL_law_274 : decode cL_law 274 = .ok (.aload_n 0, 1) := by decide +kernel
theorem dL_law_275 : decode cL_law 275 = .ok (.bipush 16, 2) := by decide +kernel
theorem dL_law_277 : decode cL_law 277 = .ok (.iload 11, 2) := by decide +kernel
theorem dL_law_279 : decode cL_law 279 = .ok (.iadd, 1) := by decide +kernel
theorem dL_law_280 : decode cL_law 280 = .ok (.invokestatic 80, 3) := by decide +kernel
theorem dL_law_283 : decode cL_law 283 = .ok (.bipush 100, 2) := by decide +kernel
theorem dL_law_285 : decode cL_law 285 = .ok (.irem, 1) := by decide +kernel
theorem dL_law_286 : decode cL_law 286 = .ok (.iastore, 1) := by decide +kernel
theorem dL_law_287 : decode cL_law 287 = .ok (.aload_n 1, 1) := by decide +kernel
theorem dL_law_288 : decode cL_law 288 = .ok (.aload_n 0, 1) := by decide +kernel
theorem dL_law_289 : decode cL_law 289 = .ok (.bipush 20, 2) := by decide +kernel
theorem dL_law_291 : decode cL_law 291 = .ok (.iload 11, 2) := by decide +kernel
theorem dL_law_293 : decode cL_law 293 = .ok (.iadd, 1) := by decide +kernel
theorem dL_law_294 : decode cL_law 294 = .ok (.invokestatic 80, 3) := by decide +kernel
theorem dL_law_297 : decode cL_law 297 = .ok (.aload_n 0, 1) := by decide +kernel
theorem dL_law_298 : decode cL_law 298 = .ok (.bipush 24, 2) := by decide +kernel
theorem dL_law_300 : decode cL_law 300 = .ok (.iload 11, 2) := by decide +kernel
theorem dL_law_302 : decode cL_law 302 = .ok (.iadd, 1) := by decide +kernel
theorem dL_law_303 : decode cL_law 303 = .ok (.invokestatic 80, 3) := by decide +kernel
theorem dL_law_306 : decode cL_law 306 = .ok (.iload 11, 2) := by decide +kernel
theorem dL_law_308 : decode cL_law 308 = .ok (.aload 8, 2) := by decide +kernel
theorem dL_law_310 : decode cL_law 310 = .ok (.invokestatic 104, 3) := by decide +kernel
theorem dL_law_313 : decode cL_law 313 = .ok (.ifCond .eq 18, 3) := by decide +kernel
theorem dL_law_316 : decode cL_law 316 = .ok (.aload_n 1, 1) := by decide +kernel
theorem dL_law_317 : decode cL_law 317 = .ok (.iload 11, 2) := by decide +kernel
theorem dL_law_319 : decode cL_law 319 = .ok (.aload 9, 2) := by decide +kernel
theorem dL_law_321 : decode cL_law 321 = .ok (.iload 11, 2) := by decide +kernel
theorem dL_law_323 : decode cL_law 323 = .ok (.iaload, 1) := by decide +kernel
theorem dL_law_324 : decode cL_law 324 = .ok (.invokevirtual 107, 3) := by decide +kernel
theorem dL_law_327 : decode cL_law 327 = .ok (.iconst 1, 1) := by decide +kernel
theorem dL_law_328 : decode cL_law 328 = .ok (.if_icmp .eq 5, 3) := by decide +kernel
theorem dL_law_331 : decode cL_law 331 = .ok (.iconst 0, 1) := by decide +kernel
theorem dL_law_332 : decode cL_law 332 = .ok (.ireturn, 1) := by decide +kernel
theorem dL_law_333 : decode cL_law 333 = .ok (.iconst 0, 1) := by decide +kernel
theorem dL_law_334 : decode cL_law 334 = .ok (.istore 12, 2) := by decide +kernel
theorem dL_law_336 : decode cL_law 336 = .ok (.iload 12, 2) := by decide +kernel
theorem dL_law_338 : decode cL_law 338 = .ok (.bipush 100, 2) := by decide +kernel
theorem dL_law_340 : decode cL_law 340 = .ok (.if_icmp .ge 222, 3) := by decide +kernel
theorem dL_law_343 : decode cL_law 343 = .ok (.iconst 0, 1) := by decide +kernel
theorem dL_law_344 : decode cL_law 344 = .ok (.istore 13, 2) := by decide +kernel
theorem dL_law_346 : decode cL_law 346 = .ok (.iload 13, 2) := by decide +kernel
theorem dL_law_348 : decode cL_law 348 = .ok (.bipush 64, 2) := by decide +kernel
theorem dL_law_350 : decode cL_law 350 = .ok (.if_icmp .ge 206, 3) := by decide +kernel
theorem dL_law_353 : decode cL_law 353 = .ok (.aload_n 1, 1) := by decide +kernel
theorem dL_law_354 : decode cL_law 354 = .ok (.iload 13, 2) := by decide +kernel
theorem dL_law_356 : decode cL_law 356 = .ok (.iconst 0, 1) := by decide +kernel
theorem dL_law_357 : decode cL_law 357 = .ok (.invokevirtual 37, 3) := by decide +kernel
theorem dL_law_360 : decode cL_law 360 = .ok (.ifCond .lt 7, 3) := by decide +kernel
theorem dL_law_363 : decode cL_law 363 = .ok (.iconst 1, 1) := by decide +kernel
theorem dL_law_364 : decode cL_law 364 = .ok (.goto 4, 3) := by decide +kernel
theorem dL_law_367 : decode cL_law 367 = .ok (.iconst 0, 1) := by decide +kernel
theorem dL_law_368 : decode cL_law 368 = .ok (.istore 14, 2) := by decide +kernel
theorem dL_law_370 : decode cL_law 370 = .ok (.iconst 0, 1) := by decide +kernel
theorem dL_law_371 : decode cL_law 371 = .ok (.istore 15, 2) := by decide +kernel
theorem dL_law_373 : decode cL_law 373 = .ok (.iload 15, 2) := by decide +kernel
theorem dL_law_375 : decode cL_law 375 = .ok (.iconst 4, 1) := by decide +kernel
theorem dL_law_376 : decode cL_law 376 = .ok (.if_icmp .ge 86, 3) := by decide +kernel
theorem dL_law_379 : decode cL_law 379 = .ok (.iload 14, 2) := by decide +kernel
theorem dL_law_381 : decode cL_law 381 = .ok (.ifCond .eq 22, 3) := by decide +kernel
theorem dL_law_384 : decode cL_law 384 = .ok (.aload_n 1, 1) := by decide +kernel
theorem dL_law_385 : decode cL_law 385 = .ok (.aload 8, 2) := by decide +kernel
theorem dL_law_387 : decode cL_law 387 = .ok (.iload 11, 2) := by decide +kernel
theorem dL_law_389 : decode cL_law 389 = .ok (.iload 13, 2) := by decide +kernel
theorem dL_law_391 : decode cL_law 391 = .ok (.iload 15, 2) := by decide +kernel
theorem dL_law_393 : decode cL_law 393 = .ok (.invokestatic 63, 3) := by decide +kernel
theorem dL_law_396 : decode cL_law 396 = .ok (.ifCond .eq 7, 3) := by decide +kernel
theorem dL_law_399 : decode cL_law 399 = .ok (.iconst 1, 1) := by decide +kernel
theorem dL_law_400 : decode cL_law 400 = .ok (.goto 4, 3) := by decide +kernel
theorem dL_law_403 : decode cL_law 403 = .ok (.iconst 0, 1) := by decide +kernel
theorem dL_law_404 : decode cL_law 404 = .ok (.istore 14, 2) := by decide +kernel
theorem dL_law_406 : decode cL_law 406 = .ok (.aload_n 1, 1) := by decide +kernel
theorem dL_law_407 : decode cL_law 407 = .ok (.iload 11, 2) := by decide +kernel
theorem dL_law_409 : decode cL_law 409 = .ok (.iload 15, 2) := by decide +kernel
theorem dL_law_411 : decode cL_law 411 = .ok (.iconst 0, 1) := by decide +kernel
theorem dL_law_412 : decode cL_law 412 = .ok (.invokevirtual 110, 3) := by decide +kernel
theorem dL_law_415 : decode cL_law 415 = .ok (.aload 8, 2) := by decide +kernel
theorem dL_law_417 : decode cL_law 417 = .ok (.bipush 8, 2) := by decide +kernel
theorem dL_law_419 : decode cL_law 419 = .ok (.iload 11, 2) := by decide +kernel
theorem dL_law_421 : decode cL_law 421 = .ok (.imul, 1) := by decide +kernel
theorem dL_law_422 : decode cL_law 422 = .ok (.iload 15, 2) := by decide +kernel
theorem dL_law_424 : decode cL_law 424 = .ok (.iadd, 1) := by decide +kernel
theorem dL_law_425 : decode cL_law 425 = .ok (.iaload, 1) := by decide +kernel
theorem dL_law_426 : decode cL_law 426 = .ok (.if_icmp .ne 28, 3) := by decide +kernel
theorem dL_law_429 : decode cL_law 429 = .ok (.aload_n 1, 1) := by decide +kernel
theorem dL_law_430 : decode cL_law 430 = .ok (.iload 11, 2) := by decide +kernel
theorem dL_law_432 : decode cL_law 432 = .ok (.iload 15, 2) := by decide +kernel
theorem dL_law_434 : decode cL_law 434 = .ok (.iconst 1, 1) := by decide +kernel
theorem dL_law_435 : decode cL_law 435 = .ok (.invokevirtual 110, 3) := by decide +kernel
theorem dL_law_438 : decode cL_law 438 = .ok (.aload 8, 2) := by decide +kernel
theorem dL_law_440 : decode cL_law 440 = .ok (.bipush 8, 2) := by decide +kernel
theorem dL_law_442 : decode cL_law 442 = .ok (.iload 11, 2) := by decide +kernel
theorem dL_law_444 : decode cL_law 444 = .ok (.imul, 1) := by decide +kernel
theorem dL_law_445 : decode cL_law 445 = .ok (.iconst 4, 1) := by decide +kernel
theorem dL_law_446 : decode cL_law 446 = .ok (.iadd, 1) := by decide +kernel
theorem dL_law_447 : decode cL_law 447 = .ok (.iload 15, 2) := by decide +kernel
theorem dL_law_449 : decode cL_law 449 = .ok (.iadd, 1) := by decide +kernel
theorem dL_law_450 : decode cL_law 450 = .ok (.iaload, 1) := by decide +kernel
theorem dL_law_451 : decode cL_law 451 = .ok (.if_icmp .eq 5, 3) := by decide +kernel
theorem dL_law_454 : decode cL_law 454 = .ok (.iconst 0, 1) := by decide +kernel
theorem dL_law_455 : decode cL_law 455 = .ok (.ireturn, 1) := by decide +kernel
theorem dL_law_456 : decode cL_law 456 = .ok (.iinc 15 1, 3) := by decide +kernel
theorem dL_law_459 : decode cL_law 459 = .ok (.goto (-86), 3) := by decide +kernel
theorem dL_law_462 : decode cL_law 462 = .ok (.aload 8, 2) := by decide +kernel
theorem dL_law_464 : decode cL_law 464 = .ok (.bipush 56, 2) := by decide +kernel
theorem dL_law_466 : decode cL_law 466 = .ok (.iload 11, 2) := by decide +kernel
theorem dL_law_468 : decode cL_law 468 = .ok (.iadd, 1) := by decide +kernel
theorem dL_law_469 : decode cL_law 469 = .ok (.iaload, 1) := by decide +kernel
theorem dL_law_470 : decode cL_law 470 = .ok (.iconst 4, 1) := by decide +kernel
theorem dL_law_471 : decode cL_law 471 = .ok (.if_icmp .ne 16, 3) := by decide +kernel
theorem dL_law_474 : decode cL_law 474 = .ok (.iload 12, 2) := by decide +kernel
theorem dL_law_476 : decode cL_law 476 = .ok (.ifCond .ne 7, 3) := by decide +kernel
theorem dL_law_479 : decode cL_law 479 = .ok (.iconst 1, 1) := by decide +kernel
theorem dL_law_480 : decode cL_law 480 = .ok (.goto 31, 3) := by decide +kernel
theorem dL_law_483 : decode cL_law 483 = .ok (.iconst 0, 1) := by decide +kernel
theorem dL_law_484 : decode cL_law 484 = .ok (.goto 27, 3) := by decide +kernel
theorem dL_law_487 : decode cL_law 487 = .ok (.aload_n 1, 1) := by decide +kernel
theorem dL_law_488 : decode cL_law 488 = .ok (.iload 13, 2) := by decide +kernel
theorem dL_law_490 : decode cL_law 490 = .ok (.aload 8, 2) := by decide +kernel
theorem dL_law_492 : decode cL_law 492 = .ok (.bipush 56, 2) := by decide +kernel
theorem dL_law_494 : decode cL_law 494 = .ok (.iload 11, 2) := by decide +kernel
theorem dL_law_496 : decode cL_law 496 = .ok (.iadd, 1) := by decide +kernel
theorem dL_law_497 : decode cL_law 497 = .ok (.iaload, 1) := by decide +kernel
theorem dL_law_498 : decode cL_law 498 = .ok (.invokevirtual 37, 3) := by decide +kernel
theorem dL_law_501 : decode cL_law 501 = .ok (.iload 12, 2) := by decide +kernel
theorem dL_law_503 : decode cL_law 503 = .ok (.if_icmp .ne 7, 3) := by decide +kernel
theorem dL_law_506 : decode cL_law 506 = .ok (.iconst 1, 1) := by decide +kernel
theorem dL_law_507 : decode cL_law 507 = .ok (.goto 4, 3) := by decide +kernel
theorem dL_law_510 : decode cL_law 510 = .ok (.iconst 0, 1) := by decide +kernel
theorem dL_law_511 : decode cL_law 511 = .ok (.istore 15, 2) := by decide +kernel
theorem dL_law_513 : decode cL_law 513 = .ok (.iload 14, 2) := by decide +kernel
theorem dL_law_515 : decode cL_law 515 = .ok (.ifCond .eq 35, 3) := by decide +kernel
theorem dL_law_518 : decode cL_law 518 = .ok (.iload 15, 2) := by decide +kernel
theorem dL_law_520 : decode cL_law 520 = .ok (.ifCond .eq 30, 3) := by decide +kernel
theorem dL_law_523 : decode cL_law 523 = .ok (.aload_n 1, 1) := by decide +kernel
theorem dL_law_524 : decode cL_law 524 = .ok (.iload 11, 2) := by decide +kernel
theorem dL_law_526 : decode cL_law 526 = .ok (.aload 10, 2) := by decide +kernel
theorem dL_law_528 : decode cL_law 528 = .ok (.iload 11, 2) := by decide +kernel
theorem dL_law_530 : decode cL_law 530 = .ok (.iaload, 1) := by decide +kernel
theorem dL_law_531 : decode cL_law 531 = .ok (.invokevirtual 112, 3) := by decide +kernel
theorem dL_law_534 : decode cL_law 534 = .ok (.iload 13, 2) := by decide +kernel
theorem dL_law_536 : decode cL_law 536 = .ok (.if_icmp .eq 5, 3) := by decide +kernel
theorem dL_law_539 : decode cL_law 539 = .ok (.iconst 0, 1) := by decide +kernel
theorem dL_law_540 : decode cL_law 540 = .ok (.ireturn, 1) := by decide +kernel
theorem dL_law_541 : decode cL_law 541 = .ok (.aload 10, 2) := by decide +kernel
theorem dL_law_543 : decode cL_law 543 = .ok (.iload 11, 2) := by decide +kernel
theorem dL_law_545 : decode cL_law 545 = .ok (.dup2, 1) := by decide +kernel
theorem dL_law_546 : decode cL_law 546 = .ok (.iaload, 1) := by decide +kernel
theorem dL_law_547 : decode cL_law 547 = .ok (.iconst 1, 1) := by decide +kernel
theorem dL_law_548 : decode cL_law 548 = .ok (.iadd, 1) := by decide +kernel
theorem dL_law_549 : decode cL_law 549 = .ok (.iastore, 1) := by decide +kernel
theorem dL_law_550 : decode cL_law 550 = .ok (.iinc 13 1, 3) := by decide +kernel
theorem dL_law_553 : decode cL_law 553 = .ok (.goto (-207), 3) := by decide +kernel
theorem dL_law_556 : decode cL_law 556 = .ok (.iinc 12 1, 3) := by decide +kernel
theorem dL_law_559 : decode cL_law 559 = .ok (.goto (-223), 3) := by decide +kernel
theorem dL_law_562 : decode cL_law 562 = .ok (.aload_n 1, 1) := by decide +kernel
theorem dL_law_563 : decode cL_law 563 = .ok (.iload 11, 2) := by decide +kernel
theorem dL_law_565 : decode cL_law 565 = .ok (.invokevirtual 115, 3) := by decide +kernel
theorem dL_law_568 : decode cL_law 568 = .ok (.aload 10, 2) := by decide +kernel
theorem dL_law_570 : decode cL_law 570 = .ok (.iload 11, 2) := by decide +kernel
theorem dL_law_572 : decode cL_law 572 = .ok (.iaload, 1) := by decide +kernel
theorem dL_law_573 : decode cL_law 573 = .ok (.if_icmp .ne 18, 3) := by decide +kernel
theorem dL_law_576 : decode cL_law 576 = .ok (.aload_n 1, 1) := by decide +kernel
theorem dL_law_577 : decode cL_law 577 = .ok (.iload 11, 2) := by decide +kernel
theorem dL_law_579 : decode cL_law 579 = .ok (.aload 10, 2) := by decide +kernel
theorem dL_law_581 : decode cL_law 581 = .ok (.iload 11, 2) := by decide +kernel
theorem dL_law_583 : decode cL_law 583 = .ok (.iaload, 1) := by decide +kernel
theorem dL_law_584 : decode cL_law 584 = .ok (.invokevirtual 112, 3) := by decide +kernel
theorem dL_law_587 : decode cL_law 587 = .ok (.iconst (-1), 1) := by decide +kernel
theorem dL_law_588 : decode cL_law 588 = .ok (.if_icmp .eq 5, 3) := by decide +kernel
theorem dL_law_591 : decode cL_law 591 = .ok (.iconst 0, 1) := by decide +kernel
theorem dL_law_592 : decode cL_law 592 = .ok (.ireturn, 1) := by decide +kernel
theorem dL_law_593 : decode cL_law 593 = .ok (.iinc 11 1, 3) := by decide +kernel
theorem dL_law_596 : decode cL_law 596 = .ok (.goto (-333), 3) := by decide +kernel
theorem dL_law_599 : decode cL_law 599 = .ok (.bipush 64, 2) := by decide +kernel
theorem dL_law_601 : decode cL_law 601 = .ok (.newarray .int, 2) := by decide +kernel
theorem dL_law_603 : decode cL_law 603 = .ok (.astore 11, 2) := by decide +kernel
theorem dL_law_605 : decode cL_law 605 = .ok (.iconst 0, 1) := by decide +kernel
theorem dL_law_606 : decode cL_law 606 = .ok (.istore 12, 2) := by decide +kernel
theorem dL_law_608 : decode cL_law 608 = .ok (.iload 12, 2) := by decide +kernel
theorem dL_law_610 : decode cL_law 610 = .ok (.iload 7, 2) := by decide +kernel
theorem dL_law_612 : decode cL_law 612 = .ok (.if_icmp .ge 138, 3) := by decide +kernel
theorem dL_law_615 : decode cL_law 615 = .ok (.iconst (-1), 1) := by decide +kernel
theorem dL_law_616 : decode cL_law 616 = .ok (.istore 13, 2) := by decide +kernel
theorem dL_law_618 : decode cL_law 618 = .ok (.iload 13, 2) := by decide +kernel
theorem dL_law_620 : decode cL_law 620 = .ok (.iload 6, 2) := by decide +kernel
theorem dL_law_622 : decode cL_law 622 = .ok (.if_icmp .ge 122, 3) := by decide +kernel
theorem dL_law_625 : decode cL_law 625 = .ok (.iload 13, 2) := by decide +kernel
theorem dL_law_627 : decode cL_law 627 = .ok (.istore 14, 2) := by decide +kernel
theorem dL_law_629 : decode cL_law 629 = .ok (.iload 14, 2) := by decide +kernel
theorem dL_law_631 : decode cL_law 631 = .ok (.iload 6, 2) := by decide +kernel
theorem dL_law_633 : decode cL_law 633 = .ok (.if_icmp .ge 105, 3) := by decide +kernel
theorem dL_law_636 : decode cL_law 636 = .ok (.iload 13, 2) := by decide +kernel
theorem dL_law_638 : decode cL_law 638 = .ok (.iload 14, 2) := by decide +kernel
theorem dL_law_640 : decode cL_law 640 = .ok (.if_icmp .ne 10, 3) := by decide +kernel
theorem dL_law_643 : decode cL_law 643 = .ok (.iload 13, 2) := by decide +kernel
theorem dL_law_645 : decode cL_law 645 = .ok (.iconst 1, 1) := by decide +kernel
theorem dL_law_646 : decode cL_law 646 = .ok (.iadd, 1) := by decide +kernel
theorem dL_law_647 : decode cL_law 647 = .ok (.goto 23, 3) := by decide +kernel
theorem dL_law_650 : decode cL_law 650 = .ok (.iload 13, 2) := by decide +kernel
theorem dL_law_652 : decode cL_law 652 = .ok (.ifCond .ge 7, 3) := by decide +kernel
theorem dL_law_655 : decode cL_law 655 = .ok (.iconst (-1), 1) := by decide +kernel
theorem dL_law_656 : decode cL_law 656 = .ok (.goto 14, 3) := by decide +kernel
theorem dL_law_659 : decode cL_law 659 = .ok (.bipush 100, 2) := by decide +kernel
theorem dL_law_661 : decode cL_law 661 = .ok (.bipush 10, 2) := by decide +kernel
theorem dL_law_663 : decode cL_law 663 = .ok (.iload 13, 2) := by decide +kernel
theorem dL_law_665 : decode cL_law 665 = .ok (.imul, 1) := by decide +kernel
theorem dL_law_666 : decode cL_law 666 = .ok (.iadd, 1) := by decide +kernel
theorem dL_law_667 : decode cL_law 667 = .ok (.iload 14, 2) := by decide +kernel
theorem dL_law_669 : decode cL_law 669 = .ok (.iadd, 1) := by decide +kernel
theorem dL_law_670 : decode cL_law 670 = .ok (.istore 15, 2) := by decide +kernel
theorem dL_law_672 : decode cL_law 672 = .ok (.iload 15, 2) := by decide +kernel
theorem dL_law_674 : decode cL_law 674 = .ok (.ifCond .lt 58, 3) := by decide +kernel
theorem dL_law_677 : decode cL_law 677 = .ok (.aload_n 1, 1) := by decide +kernel
theorem dL_law_678 : decode cL_law 678 = .ok (.aload 8, 2) := by decide +kernel
theorem dL_law_680 : decode cL_law 680 = .ok (.iload 12, 2) := by decide +kernel
theorem dL_law_682 : decode cL_law 682 = .ok (.iload 15, 2) := by decide +kernel
theorem dL_law_684 : decode cL_law 684 = .ok (.iload_n 2, 1) := by decide +kernel
theorem dL_law_685 : decode cL_law 685 = .ok (.aload 10, 2) := by decide +kernel
theorem dL_law_687 : decode cL_law 687 = .ok (.iload 12, 2) := by decide +kernel
theorem dL_law_689 : decode cL_law 689 = .ok (.iaload, 1) := by decide +kernel
theorem dL_law_690 : decode cL_law 690 = .ok (.invokestatic 118, 3) := by decide +kernel
theorem dL_law_693 : decode cL_law 693 = .ok (.istore 16, 2) := by decide +kernel
theorem dL_law_695 : decode cL_law 695 = .ok (.aload 11, 2) := by decide +kernel
theorem dL_law_697 : decode cL_law 697 = .ok (.bipush 16, 2) := by decide +kernel
theorem dL_law_699 : decode cL_law 699 = .ok (.iload 12, 2) := by decide +kernel
theorem dL_law_701 : decode cL_law 701 = .ok (.imul, 1) := by decide +kernel
theorem dL_law_702 : decode cL_law 702 = .ok (.iconst 4, 1) := by decide +kernel
theorem dL_law_703 : decode cL_law 703 = .ok (.iload 13, 2) := by decide +kernel
theorem dL_law_705 : decode cL_law 705 = .ok (.iconst 1, 1) := by decide +kernel
theorem dL_law_706 : decode cL_law 706 = .ok (.iadd, 1) := by decide +kernel
theorem dL_law_707 : decode cL_law 707 = .ok (.imul, 1) := by decide +kernel
theorem dL_law_708 : decode cL_law 708 = .ok (.iadd, 1) := by decide +kernel
theorem dL_law_709 : decode cL_law 709 = .ok (.iload 14, 2) := by decide +kernel
theorem dL_law_711 : decode cL_law 711 = .ok (.iadd, 1) := by decide +kernel
theorem dL_law_712 : decode cL_law 712 = .ok (.iconst 1, 1) := by decide +kernel
theorem dL_law_713 : decode cL_law 713 = .ok (.iadd, 1) := by decide +kernel
theorem dL_law_714 : decode cL_law 714 = .ok (.iload 16, 2) := by decide +kernel
theorem dL_law_716 : decode cL_law 716 = .ok (.iastore, 1) := by decide +kernel
theorem dL_law_717 : decode cL_law 717 = .ok (.aload_n 1, 1) := by decide +kernel
theorem dL_law_718 : decode cL_law 718 = .ok (.iload 12, 2) := by decide +kernel
theorem dL_law_720 : decode cL_law 720 = .ok (.iload 15, 2) := by decide +kernel
theorem dL_law_722 : decode cL_law 722 = .ok (.invokevirtual 122, 3) := by decide +kernel
theorem dL_law_725 : decode cL_law 725 = .ok (.iload 16, 2) := by decide +kernel
theorem dL_law_727 : decode cL_law 727 = .ok (.if_icmp .eq 5, 3) := by decide +kernel
theorem dL_law_730 : decode cL_law 730 = .ok (.iconst 0, 1) := by decide +kernel
theorem dL_law_731 : decode cL_law 731 = .ok (.ireturn, 1) := by decide +kernel
theorem dL_law_732 : decode cL_law 732 = .ok (.iinc 14 1, 3) := by decide +kernel
theorem dL_law_735 : decode cL_law 735 = .ok (.goto (-106), 3) := by decide +kernel
theorem dL_law_738 : decode cL_law 738 = .ok (.iinc 13 1, 3) := by decide +kernel
theorem dL_law_741 : decode cL_law 741 = .ok (.goto (-123), 3) := by decide +kernel
theorem dL_law_744 : decode cL_law 744 = .ok (.iinc 12 1, 3) := by decide +kernel
theorem dL_law_747 : decode cL_law 747 = .ok (.goto (-139), 3) := by decide +kernel
theorem dL_law_750 : decode cL_law 750 = .ok (.aload_n 0, 1) := by decide +kernel
theorem dL_law_751 : decode cL_law 751 = .ok (.bipush 28, 2) := by decide +kernel
theorem dL_law_753 : decode cL_law 753 = .ok (.invokestatic 80, 3) := by decide +kernel
theorem dL_law_756 : decode cL_law 756 = .ok (.bipush 20, 2) := by decide +kernel
theorem dL_law_758 : decode cL_law 758 = .ok (.irem, 1) := by decide +kernel
theorem dL_law_759 : decode cL_law 759 = .ok (.istore 12, 2) := by decide +kernel
theorem dL_law_761 : decode cL_law 761 = .ok (.aload_n 0, 1) := by decide +kernel
theorem dL_law_762 : decode cL_law 762 = .ok (.bipush 29, 2) := by decide +kernel
theorem dL_law_764 : decode cL_law 764 = .ok (.invokestatic 80, 3) := by decide +kernel
theorem dL_law_767 : decode cL_law 767 = .ok (.bipush 40, 2) := by decide +kernel
theorem dL_law_769 : decode cL_law 769 = .ok (.irem, 1) := by decide +kernel
theorem dL_law_770 : decode cL_law 770 = .ok (.istore 13, 2) := by decide +kernel
theorem dL_law_772 : decode cL_law 772 = .ok (.aload_n 1, 1) := by decide +kernel
theorem dL_law_773 : decode cL_law 773 = .ok (.iload 12, 2) := by decide +kernel
theorem dL_law_775 : decode cL_law 775 = .ok (.invokevirtual 124, 3) := by decide +kernel
theorem dL_law_778 : decode cL_law 778 = .ok (.ifCond .eq 5, 3) := by decide +kernel
theorem dL_law_781 : decode cL_law 781 = .ok (.iconst 0, 1) := by decide +kernel
theorem dL_law_782 : decode cL_law 782 = .ok (.ireturn, 1) := by decide +kernel
theorem dL_law_783 : decode cL_law 783 = .ok (.iconst 0, 1) := by decide +kernel
theorem dL_law_784 : decode cL_law 784 = .ok (.istore 14, 2) := by decide +kernel
theorem dL_law_786 : decode cL_law 786 = .ok (.iconst (-1), 1) := by decide +kernel
theorem dL_law_787 : decode cL_law 787 = .ok (.istore 15, 2) := by decide +kernel
theorem dL_law_789 : decode cL_law 789 = .ok (.iconst 0, 1) := by decide +kernel
theorem dL_law_790 : decode cL_law 790 = .ok (.istore 16, 2) := by decide +kernel
theorem dL_law_792 : decode cL_law 792 = .ok (.bipush 8, 2) := by decide +kernel
theorem dL_law_794 : decode cL_law 794 = .ok (.newarray .int, 2) := by decide +kernel
theorem dL_law_796 : decode cL_law 796 = .ok (.astore 17, 2) := by decide +kernel
theorem dL_law_798 : decode cL_law 798 = .ok (.iconst 0, 1) := by decide +kernel
theorem dL_law_799 : decode cL_law 799 = .ok (.istore 18, 2) := by decide +kernel
theorem dL_law_801 : decode cL_law 801 = .ok (.iload 18, 2) := by decide +kernel
theorem dL_law_803 : decode cL_law 803 = .ok (.iconst 1, 1) := by decide +kernel
theorem dL_law_804 : decode cL_law 804 = .ok (.iload 6, 2) := by decide +kernel
theorem dL_law_806 : decode cL_law 806 = .ok (.ishl, 1) := by decide +kernel
theorem dL_law_807 : decode cL_law 807 = .ok (.if_icmp .ge 367, 3) := by decide +kernel
theorem dL_law_810 : decode cL_law 810 = .ok (.iconst 0, 1) := by decide +kernel
theorem dL_law_811 : decode cL_law 811 = .ok (.istore 19, 2) := by decide +kernel
theorem dL_law_813 : decode cL_law 813 = .ok (.iconst 0, 1) := by decide +kernel
theorem dL_law_814 : decode cL_law 814 = .ok (.istore 20, 2) := by decide +kernel
theorem dL_law_816 : decode cL_law 816 = .ok (.iconst 0, 1) := by decide +kernel
theorem dL_law_817 : decode cL_law 817 = .ok (.istore 21, 2) := by decide +kernel
theorem dL_law_819 : decode cL_law 819 = .ok (.iload 21, 2) := by decide +kernel
theorem dL_law_821 : decode cL_law 821 = .ok (.iload 6, 2) := by decide +kernel
theorem dL_law_823 : decode cL_law 823 = .ok (.if_icmp .ge 68, 3) := by decide +kernel
theorem dL_law_826 : decode cL_law 826 = .ok (.iload 19, 2) := by decide +kernel
theorem dL_law_828 : decode cL_law 828 = .ok (.iload 18, 2) := by decide +kernel
theorem dL_law_830 : decode cL_law 830 = .ok (.iload 21, 2) := by decide +kernel
theorem dL_law_832 : decode cL_law 832 = .ok (.ishr, 1) := by decide +kernel
theorem dL_law_833 : decode cL_law 833 = .ok (.iconst 1, 1) := by decide +kernel
theorem dL_law_834 : decode cL_law 834 = .ok (.iand, 1) := by decide +kernel
theorem dL_law_835 : decode cL_law 835 = .ok (.iconst 1, 1) := by decide +kernel
theorem dL_law_836 : decode cL_law 836 = .ok (.if_icmp .ne 18, 3) := by decide +kernel
theorem dL_law_839 : decode cL_law 839 = .ok (.iload 12, 2) := by decide +kernel
theorem dL_law_841 : decode cL_law 841 = .ok (.aload_n 1, 1) := by decide +kernel
theorem dL_law_842 : decode cL_law 842 = .ok (.iload 21, 2) := by decide +kernel
theorem dL_law_844 : decode cL_law 844 = .ok (.iconst 2, 1) := by decide +kernel
theorem dL_law_845 : decode cL_law 845 = .ok (.invokevirtual 50, 3) := by decide +kernel
theorem dL_law_848 : decode cL_law 848 = .ok (.iconst 2, 1) := by decide +kernel
theorem dL_law_849 : decode cL_law 849 = .ok (.iadd, 1) := by decide +kernel
theorem dL_law_850 : decode cL_law 850 = .ok (.imul, 1) := by decide +kernel
theorem dL_law_851 : decode cL_law 851 = .ok (.goto 4, 3) := by decide +kernel
theorem dL_law_854 : decode cL_law 854 = .ok (.iconst 0, 1) := by decide +kernel
theorem dL_law_855 : decode cL_law 855 = .ok (.iadd, 1) := by decide +kernel
theorem dL_law_856 : decode cL_law 856 = .ok (.istore 19, 2) := by decide +kernel
theorem dL_law_858 : decode cL_law 858 = .ok (.iload 20, 2) := by decide +kernel
theorem dL_law_860 : decode cL_law 860 = .ok (.iload 18, 2) := by decide +kernel
theorem dL_law_862 : decode cL_law 862 = .ok (.iload 21, 2) := by decide +kernel
theorem dL_law_864 : decode cL_law 864 = .ok (.ishr, 1) := by decide +kernel
theorem dL_law_865 : decode cL_law 865 = .ok (.iconst 1, 1) := by decide +kernel
theorem dL_law_866 : decode cL_law 866 = .ok (.iand, 1) := by decide +kernel
theorem dL_law_867 : decode cL_law 867 = .ok (.iconst 1, 1) := by decide +kernel
theorem dL_law_868 : decode cL_law 868 = .ok (.if_icmp .ne 13, 3) := by decide +kernel
theorem dL_law_871 : decode cL_law 871 = .ok (.aload_n 1, 1) := by decide +kernel
theorem dL_law_872 : decode cL_law 872 = .ok (.iload 21, 2) := by decide +kernel
theorem dL_law_874 : decode cL_law 874 = .ok (.iconst 3, 1) := by decide +kernel
theorem dL_law_875 : decode cL_law 875 = .ok (.invokevirtual 50, 3) := by decide +kernel
theorem dL_law_878 : decode cL_law 878 = .ok (.goto 4, 3) := by decide +kernel
theorem dL_law_881 : decode cL_law 881 = .ok (.iconst 0, 1) := by decide +kernel
theorem dL_law_882 : decode cL_law 882 = .ok (.iadd, 1) := by decide +kernel
theorem dL_law_883 : decode cL_law 883 = .ok (.istore 20, 2) := by decide +kernel
theorem dL_law_885 : decode cL_law 885 = .ok (.iinc 21 1, 3) := by decide +kernel
theorem dL_law_888 : decode cL_law 888 = .ok (.goto (-69), 3) := by decide +kernel
theorem dL_law_891 : decode cL_law 891 = .ok (.iconst 0, 1) := by decide +kernel
theorem dL_law_892 : decode cL_law 892 = .ok (.istore 21, 2) := by decide +kernel
theorem dL_law_894 : decode cL_law 894 = .ok (.iload 21, 2) := by decide +kernel
theorem dL_law_896 : decode cL_law 896 = .ok (.iload 7, 2) := by decide +kernel
theorem dL_law_898 : decode cL_law 898 = .ok (.if_icmp .ge 205, 3) := by decide +kernel
theorem dL_law_901 : decode cL_law 901 = .ok (.iconst 0, 1) := by decide +kernel
theorem dL_law_902 : decode cL_law 902 = .ok (.istore 22, 2) := by decide +kernel
theorem dL_law_904 : decode cL_law 904 = .ok (.aload 11, 2) := by decide +kernel
theorem dL_law_906 : decode cL_law 906 = .ok (.bipush 16, 2) := by decide +kernel
theorem dL_law_908 : decode cL_law 908 = .ok (.iload 21, 2) := by decide +kernel
theorem dL_law_910 : decode cL_law 910 = .ok (.imul, 1) := by decide +kernel
theorem dL_law_911 : decode cL_law 911 = .ok (.iaload, 1) := by decide +kernel
theorem dL_law_912 : decode cL_law 912 = .ok (.istore 23, 2) := by decide +kernel
theorem dL_law_914 : decode cL_law 914 = .ok (.iconst 0, 1) := by decide +kernel
theorem dL_law_915 : decode cL_law 915 = .ok (.istore 24, 2) := by decide +kernel
theorem dL_law_917 : decode cL_law 917 = .ok (.iload 24, 2) := by decide +kernel
theorem dL_law_919 : decode cL_law 919 = .ok (.iconst 2, 1) := by decide +kernel
theorem dL_law_920 : decode cL_law 920 = .ok (.if_icmp .ge 149, 3) := by decide +kernel
theorem dL_law_923 : decode cL_law 923 = .ok (.iconst 0, 1) := by decide +kernel
theorem dL_law_924 : decode cL_law 924 = .ok (.istore 25, 2) := by decide +kernel
theorem dL_law_926 : decode cL_law 926 = .ok (.iload 25, 2) := by decide +kernel
theorem dL_law_928 : decode cL_law 928 = .ok (.iload 6, 2) := by decide +kernel
theorem dL_law_930 : decode cL_law 930 = .ok (.if_icmp .ge 133, 3) := by decide +kernel
theorem dL_law_933 : decode cL_law 933 = .ok (.iload 25, 2) := by decide +kernel
theorem dL_law_935 : decode cL_law 935 = .ok (.istore 26, 2) := by decide +kernel
theorem dL_law_937 : decode cL_law 937 = .ok (.iload 26, 2) := by decide +kernel
theorem dL_law_939 : decode cL_law 939 = .ok (.iload 6, 2) := by decide +kernel
theorem dL_law_941 : decode cL_law 941 = .ok (.if_icmp .ge 116, 3) := by decide +kernel
theorem dL_law_944 : decode cL_law 944 = .ok (.aload 11, 2) := by decide +kernel
theorem dL_law_946 : decode cL_law 946 = .ok (.bipush 16, 2) := by decide +kernel
theorem dL_law_948 : decode cL_law 948 = .ok (.iload 21, 2) := by decide +kernel
theorem dL_law_950 : decode cL_law 950 = .ok (.imul, 1) := by decide +kernel
theorem dL_law_951 : decode cL_law 951 = .ok (.iconst 4, 1) := by decide +kernel
theorem dL_law_952 : decode cL_law 952 = .ok (.iload 25, 2) := by decide +kernel
theorem dL_law_954 : decode cL_law 954 = .ok (.iconst 1, 1) := by decide +kernel
theorem dL_law_955 : decode cL_law 955 = .ok (.iadd, 1) := by decide +kernel
theorem dL_law_956 : decode cL_law 956 = .ok (.imul, 1) := by decide +kernel
theorem dL_law_957 : decode cL_law 957 = .ok (.iadd, 1) := by decide +kernel
theorem dL_law_958 : decode cL_law 958 = .ok (.iload 26, 2) := by decide +kernel
theorem dL_law_960 : decode cL_law 960 = .ok (.iadd, 1) := by decide +kernel
theorem dL_law_961 : decode cL_law 961 = .ok (.iconst 1, 1) := by decide +kernel
theorem dL_law_962 : decode cL_law 962 = .ok (.iadd, 1) := by decide +kernel
theorem dL_law_963 : decode cL_law 963 = .ok (.iaload, 1) := by decide +kernel
theorem dL_law_964 : decode cL_law 964 = .ok (.istore 27, 2) := by decide +kernel
theorem dL_law_966 : decode cL_law 966 = .ok (.iload 18, 2) := by decide +kernel
theorem dL_law_968 : decode cL_law 968 = .ok (.iload 25, 2) := by decide +kernel
theorem dL_law_970 : decode cL_law 970 = .ok (.ishr, 1) := by decide +kernel
theorem dL_law_971 : decode cL_law 971 = .ok (.iconst 1, 1) := by decide +kernel
theorem dL_law_972 : decode cL_law 972 = .ok (.iand, 1) := by decide +kernel
theorem dL_law_973 : decode cL_law 973 = .ok (.iconst 1, 1) := by decide +kernel
theorem dL_law_974 : decode cL_law 974 = .ok (.if_icmp .ne 77, 3) := by decide +kernel
theorem dL_law_977 : decode cL_law 977 = .ok (.iload 18, 2) := by decide +kernel
theorem dL_law_979 : decode cL_law 979 = .ok (.iload 26, 2) := by decide +kernel
theorem dL_law_981 : decode cL_law 981 = .ok (.ishr, 1) := by decide +kernel
theorem dL_law_982 : decode cL_law 982 = .ok (.iconst 1, 1) := by decide +kernel
theorem dL_law_983 : decode cL_law 983 = .ok (.iand, 1) := by decide +kernel
theorem dL_law_984 : decode cL_law 984 = .ok (.iconst 1, 1) := by decide +kernel
theorem dL_law_985 : decode cL_law 985 = .ok (.if_icmp .ne 66, 3) := by decide +kernel
theorem dL_law_988 : decode cL_law 988 = .ok (.iload 25, 2) := by decide +kernel
theorem dL_law_990 : decode cL_law 990 = .ok (.iload 26, 2) := by decide +kernel
theorem dL_law_992 : decode cL_law 992 = .ok (.if_icmp .ne 7, 3) := by decide +kernel
theorem dL_law_995 : decode cL_law 995 = .ok (.iconst 1, 1) := by decide +kernel
theorem dL_law_996 : decode cL_law 996 = .ok (.goto 4, 3) := by decide +kernel
theorem dL_law_999 : decode cL_law 999 = .ok (.iconst 0, 1) := by decide +kernel
theorem dL_law_1000 : decode cL_law 1000 = .ok (.iload 24, 2) := by decide +kernel
theorem dL_law_1002 : decode cL_law 1002 = .ok (.ifCond .ne 7, 3) := by decide +kernel
theorem dL_law_1005 : decode cL_law 1005 = .ok (.iconst 1, 1) := by decide +kernel
theorem dL_law_1006 : decode cL_law 1006 = .ok (.goto 4, 3) := by decide +kernel
theorem dL_law_1009 : decode cL_law 1009 = .ok (.iconst 0, 1) := by decide +kernel
theorem dL_law_1010 : decode cL_law 1010 = .ok (.if_icmp .ne 41, 3) := by decide +kernel
theorem dL_law_1013 : decode cL_law 1013 = .ok (.iload 27, 2) := by decide +kernel
theorem dL_law_1015 : decode cL_law 1015 = .ok (.iload 23, 2) := by decide +kernel
theorem dL_law_1017 : decode cL_law 1017 = .ok (.if_icmp .ge 34, 3) := by decide +kernel
theorem dL_law_1020 : decode cL_law 1020 = .ok (.iload 27, 2) := by decide +kernel
theorem dL_law_1022 : decode cL_law 1022 = .ok (.istore 23, 2) := by decide +kernel
theorem dL_law_1024 : decode cL_law 1024 = .ok (.iload 25, 2) := by decide +kernel
theorem dL_law_1026 : decode cL_law 1026 = .ok (.iload 26, 2) := by decide +kernel
theorem dL_law_1028 : decode cL_law 1028 = .ok (.if_icmp .ne 10, 3) := by decide +kernel
theorem dL_law_1031 : decode cL_law 1031 = .ok (.iload 25, 2) := by decide +kernel
theorem dL_law_1033 : decode cL_law 1033 = .ok (.iconst 1, 1) := by decide +kernel
theorem dL_law_1034 : decode cL_law 1034 = .ok (.iadd, 1) := by decide +kernel
theorem dL_law_1035 : decode cL_law 1035 = .ok (.goto 14, 3) := by decide +kernel
theorem dL_law_1038 : decode cL_law 1038 = .ok (.bipush 100, 2) := by decide +kernel
theorem dL_law_1040 : decode cL_law 1040 = .ok (.bipush 10, 2) := by decide +kernel
theorem dL_law_1042 : decode cL_law 1042 = .ok (.iload 25, 2) := by decide +kernel
theorem dL_law_1044 : decode cL_law 1044 = .ok (.imul, 1) := by decide +kernel
theorem dL_law_1045 : decode cL_law 1045 = .ok (.iadd, 1) := by decide +kernel
theorem dL_law_1046 : decode cL_law 1046 = .ok (.iload 26, 2) := by decide +kernel
theorem dL_law_1048 : decode cL_law 1048 = .ok (.iadd, 1) := by decide +kernel
theorem dL_law_1049 : decode cL_law 1049 = .ok (.istore 22, 2) := by decide +kernel
theorem dL_law_1051 : decode cL_law 1051 = .ok (.iinc 26 1, 3) := by decide +kernel
theorem dL_law_1054 : decode cL_law 1054 = .ok (.goto (-117), 3) := by decide +kernel
theorem dL_law_1057 : decode cL_law 1057 = .ok (.iinc 25 1, 3) := by decide +kernel
theorem dL_law_1060 : decode cL_law 1060 = .ok (.goto (-134), 3) := by decide +kernel
theorem dL_law_1063 : decode cL_law 1063 = .ok (.iinc 24 1, 3) := by decide +kernel
theorem dL_law_1066 : decode cL_law 1066 = .ok (.goto (-149), 3) := by decide +kernel
theorem dL_law_1069 : decode cL_law 1069 = .ok (.iload 19, 2) := by decide +kernel
theorem dL_law_1071 : decode cL_law 1071 = .ok (.aload 9, 2) := by decide +kernel
theorem dL_law_1073 : decode cL_law 1073 = .ok (.iload 21, 2) := by decide +kernel
theorem dL_law_1075 : decode cL_law 1075 = .ok (.iaload, 1) := by decide +kernel
theorem dL_law_1076 : decode cL_law 1076 = .ok (.iload 23, 2) := by decide +kernel
theorem dL_law_1078 : decode cL_law 1078 = .ok (.imul, 1) := by decide +kernel
theorem dL_law_1079 : decode cL_law 1079 = .ok (.iadd, 1) := by decide +kernel
theorem dL_law_1080 : decode cL_law 1080 = .ok (.istore 19, 2) := by decide +kernel
theorem dL_law_1082 : decode cL_law 1082 = .ok (.aload_n 1, 1) := by decide +kernel
theorem dL_law_1083 : decode cL_law 1083 = .ok (.iload 21, 2) := by decide +kernel
theorem dL_law_1085 : decode cL_law 1085 = .ok (.iload 18, 2) := by decide +kernel
theorem dL_law_1087 : decode cL_law 1087 = .ok (.invokevirtual 127, 3) := by decide +kernel
theorem dL_law_1090 : decode cL_law 1090 = .ok (.iload 22, 2) := by decide +kernel
theorem dL_law_1092 : decode cL_law 1092 = .ok (.if_icmp .eq 5, 3) := by decide +kernel
theorem dL_law_1095 : decode cL_law 1095 = .ok (.iconst 0, 1) := by decide +kernel
theorem dL_law_1096 : decode cL_law 1096 = .ok (.ireturn, 1) := by decide +kernel
theorem dL_law_1097 : decode cL_law 1097 = .ok (.iinc 21 1, 3) := by decide +kernel
theorem dL_law_1100 : decode cL_law 1100 = .ok (.goto (-206), 3) := by decide +kernel
theorem dL_law_1103 : decode cL_law 1103 = .ok (.aload 17, 2) := by decide +kernel
theorem dL_law_1105 : decode cL_law 1105 = .ok (.iload 18, 2) := by decide +kernel
theorem dL_law_1107 : decode cL_law 1107 = .ok (.iload 19, 2) := by decide +kernel
theorem dL_law_1109 : decode cL_law 1109 = .ok (.iastore, 1) := by decide +kernel
theorem dL_law_1110 : decode cL_law 1110 = .ok (.aload_n 1, 1) := by decide +kernel
theorem dL_law_1111 : decode cL_law 1111 = .ok (.iload 18, 2) := by decide +kernel
theorem dL_law_1113 : decode cL_law 1113 = .ok (.invokevirtual 130, 3) := by decide +kernel
theorem dL_law_1116 : decode cL_law 1116 = .ok (.iload 19, 2) := by decide +kernel
theorem dL_law_1118 : decode cL_law 1118 = .ok (.if_icmp .eq 5, 3) := by decide +kernel
theorem dL_law_1121 : decode cL_law 1121 = .ok (.iconst 0, 1) := by decide +kernel
theorem dL_law_1122 : decode cL_law 1122 = .ok (.ireturn, 1) := by decide +kernel
theorem dL_law_1123 : decode cL_law 1123 = .ok (.iload 20, 2) := by decide +kernel
theorem dL_law_1125 : decode cL_law 1125 = .ok (.iload 13, 2) := by decide +kernel
theorem dL_law_1127 : decode cL_law 1127 = .ok (.if_icmp .gt 41, 3) := by decide +kernel
theorem dL_law_1130 : decode cL_law 1130 = .ok (.iload 15, 2) := by decide +kernel
theorem dL_law_1132 : decode cL_law 1132 = .ok (.ifCond .lt 24, 3) := by decide +kernel
theorem dL_law_1135 : decode cL_law 1135 = .ok (.iload 19, 2) := by decide +kernel
theorem dL_law_1137 : decode cL_law 1137 = .ok (.iload 15, 2) := by decide +kernel
theorem dL_law_1139 : decode cL_law 1139 = .ok (.if_icmp .lt 17, 3) := by decide +kernel
theorem dL_law_1142 : decode cL_law 1142 = .ok (.iload 19, 2) := by decide +kernel
theorem dL_law_1144 : decode cL_law 1144 = .ok (.iload 15, 2) := by decide +kernel
theorem dL_law_1146 : decode cL_law 1146 = .ok (.if_icmp .ne 22, 3) := by decide +kernel
theorem dL_law_1149 : decode cL_law 1149 = .ok (.iload 20, 2) := by decide +kernel
theorem dL_law_1151 : decode cL_law 1151 = .ok (.iload 16, 2) := by decide +kernel
theorem dL_law_1153 : decode cL_law 1153 = .ok (.if_icmp .ge 15, 3) := by decide +kernel
theorem dL_law_1156 : decode cL_law 1156 = .ok (.iload 18, 2) := by decide +kernel
theorem dL_law_1158 : decode cL_law 1158 = .ok (.istore 14, 2) := by decide +kernel
theorem dL_law_1160 : decode cL_law 1160 = .ok (.iload 19, 2) := by decide +kernel
theorem dL_law_1162 : decode cL_law 1162 = .ok (.istore 15, 2) := by decide +kernel
theorem dL_law_1164 : decode cL_law 1164 = .ok (.iload 20, 2) := by decide +kernel
theorem dL_law_1166 : decode cL_law 1166 = .ok (.istore 16, 2) := by decide +kernel
theorem dL_law_1168 : decode cL_law 1168 = .ok (.iinc 18 1, 3) := by decide +kernel
theorem dL_law_1171 : decode cL_law 1171 = .ok (.goto (-370), 3) := by decide +kernel
theorem dL_law_1174 : decode cL_law 1174 = .ok (.aload_n 1, 1) := by decide +kernel
theorem dL_law_1175 : decode cL_law 1175 = .ok (.iload 13, 2) := by decide +kernel
theorem dL_law_1177 : decode cL_law 1177 = .ok (.iconst 0, 1) := by decide +kernel
theorem dL_law_1178 : decode cL_law 1178 = .ok (.invokevirtual 133, 3) := by decide +kernel
theorem dL_law_1181 : decode cL_law 1181 = .ok (.iload 14, 2) := by decide +kernel
theorem dL_law_1183 : decode cL_law 1183 = .ok (.if_icmp .ne 27, 3) := by decide +kernel
theorem dL_law_1186 : decode cL_law 1186 = .ok (.aload_n 1, 1) := by decide +kernel
theorem dL_law_1187 : decode cL_law 1187 = .ok (.iload 13, 2) := by decide +kernel
theorem dL_law_1189 : decode cL_law 1189 = .ok (.iconst 1, 1) := by decide +kernel
theorem dL_law_1190 : decode cL_law 1190 = .ok (.invokevirtual 133, 3) := by decide +kernel
theorem dL_law_1193 : decode cL_law 1193 = .ok (.iload 15, 2) := by decide +kernel
theorem dL_law_1195 : decode cL_law 1195 = .ok (.if_icmp .ne 15, 3) := by decide +kernel
theorem dL_law_1198 : decode cL_law 1198 = .ok (.aload_n 1, 1) := by decide +kernel
theorem dL_law_1199 : decode cL_law 1199 = .ok (.iload 13, 2) := by decide +kernel
theorem dL_law_1201 : decode cL_law 1201 = .ok (.iconst 2, 1) := by decide +kernel
theorem dL_law_1202 : decode cL_law 1202 = .ok (.invokevirtual 133, 3) := by decide +kernel
theorem dL_law_1205 : decode cL_law 1205 = .ok (.iload 16, 2) := by decide +kernel
theorem dL_law_1207 : decode cL_law 1207 = .ok (.if_icmp .eq 5, 3) := by decide +kernel
theorem dL_law_1210 : decode cL_law 1210 = .ok (.iconst 0, 1) := by decide +kernel
theorem dL_law_1211 : decode cL_law 1211 = .ok (.ireturn, 1) := by decide +kernel
theorem dL_law_1212 : decode cL_law 1212 = .ok (.iconst 0, 1) := by decide +kernel
theorem dL_law_1213 : decode cL_law 1213 = .ok (.istore 18, 2) := by decide +kernel
theorem dL_law_1215 : decode cL_law 1215 = .ok (.iconst 0, 1) := by decide +kernel
theorem dL_law_1216 : decode cL_law 1216 = .ok (.istore 19, 2) := by decide +kernel
theorem dL_law_1218 : decode cL_law 1218 = .ok (.iconst 1, 1) := by decide +kernel
theorem dL_law_1219 : decode cL_law 1219 = .ok (.istore 20, 2) := by decide +kernel
theorem dL_law_1221 : decode cL_law 1221 = .ok (.iload 20, 2) := by decide +kernel
theorem dL_law_1223 : decode cL_law 1223 = .ok (.ifCond .eq 193, 3) := by decide +kernel
theorem dL_law_1226 : decode cL_law 1226 = .ok (.iconst (-1), 1) := by decide +kernel
theorem dL_law_1227 : decode cL_law 1227 = .ok (.istore 21, 2) := by decide +kernel
theorem dL_law_1229 : decode cL_law 1229 = .ok (.aload 17, 2) := by decide +kernel
theorem dL_law_1231 : decode cL_law 1231 = .ok (.iload 18, 2) := by decide +kernel
theorem dL_law_1233 : decode cL_law 1233 = .ok (.iaload, 1) := by decide +kernel
theorem dL_law_1234 : decode cL_law 1234 = .ok (.istore 22, 2) := by decide +kernel
theorem dL_law_1236 : decode cL_law 1236 = .ok (.iconst 0, 1) := by decide +kernel
theorem dL_law_1237 : decode cL_law 1237 = .ok (.istore 23, 2) := by decide +kernel
theorem dL_law_1239 : decode cL_law 1239 = .ok (.iload 23, 2) := by decide +kernel
theorem dL_law_1241 : decode cL_law 1241 = .ok (.iload 6, 2) := by decide +kernel
theorem dL_law_1243 : decode cL_law 1243 = .ok (.if_icmp .ge 99, 3) := by decide +kernel
theorem dL_law_1246 : decode cL_law 1246 = .ok (.iload 18, 2) := by decide +kernel
theorem dL_law_1248 : decode cL_law 1248 = .ok (.iconst 1, 1) := by decide +kernel
theorem dL_law_1249 : decode cL_law 1249 = .ok (.iload 23, 2) := by decide +kernel
theorem dL_law_1251 : decode cL_law 1251 = .ok (.ishl, 1) := by decide +kernel
theorem dL_law_1252 : decode cL_law 1252 = .ok (.ior, 1) := by decide +kernel
theorem dL_law_1253 : decode cL_law 1253 = .ok (.istore 24, 2) := by decide +kernel
theorem dL_law_1255 : decode cL_law 1255 = .ok (.iconst 0, 1) := by decide +kernel
theorem dL_law_1256 : decode cL_law 1256 = .ok (.istore 25, 2) := by decide +kernel
theorem dL_law_1258 : decode cL_law 1258 = .ok (.iconst 0, 1) := by decide +kernel
theorem dL_law_1259 : decode cL_law 1259 = .ok (.istore 26, 2) := by decide +kernel
theorem dL_law_1261 : decode cL_law 1261 = .ok (.iload 26, 2) := by decide +kernel
theorem dL_law_1263 : decode cL_law 1263 = .ok (.iload 6, 2) := by decide +kernel
theorem dL_law_1265 : decode cL_law 1265 = .ok (.if_icmp .ge 36, 3) := by decide +kernel
theorem dL_law_1268 : decode cL_law 1268 = .ok (.iload 25, 2) := by decide +kernel
theorem dL_law_1270 : decode cL_law 1270 = .ok (.iload 24, 2) := by decide +kernel
theorem dL_law_1272 : decode cL_law 1272 = .ok (.iload 26, 2) := by decide +kernel
theorem dL_law_1274 : decode cL_law 1274 = .ok (.ishr, 1) := by decide +kernel
theorem dL_law_1275 : decode cL_law 1275 = .ok (.iconst 1, 1) := by decide +kernel
theorem dL_law_1276 : decode cL_law 1276 = .ok (.iand, 1) := by decide +kernel
theorem dL_law_1277 : decode cL_law 1277 = .ok (.iconst 1, 1) := by decide +kernel
theorem dL_law_1278 : decode cL_law 1278 = .ok (.if_icmp .ne 13, 3) := by decide +kernel
theorem dL_law_1281 : decode cL_law 1281 = .ok (.aload_n 1, 1) := by decide +kernel
theorem dL_law_1282 : decode cL_law 1282 = .ok (.iload 26, 2) := by decide +kernel
theorem dL_law_1284 : decode cL_law 1284 = .ok (.iconst 3, 1) := by decide +kernel
theorem dL_law_1285 : decode cL_law 1285 = .ok (.invokevirtual 50, 3) := by decide +kernel
theorem dL_law_1288 : decode cL_law 1288 = .ok (.goto 4, 3) := by decide +kernel
theorem dL_law_1291 : decode cL_law 1291 = .ok (.iconst 0, 1) := by decide +kernel
theorem dL_law_1292 : decode cL_law 1292 = .ok (.iadd, 1) := by decide +kernel
theorem dL_law_1293 : decode cL_law 1293 = .ok (.istore 25, 2) := by decide +kernel
theorem dL_law_1295 : decode cL_law 1295 = .ok (.iinc 26 1, 3) := by decide +kernel
theorem dL_law_1298 : decode cL_law 1298 = .ok (.goto (-37), 3) := by decide +kernel
theorem dL_law_1301 : decode cL_law 1301 = .ok (.iload 24, 2) := by decide +kernel
theorem dL_law_1303 : decode cL_law 1303 = .ok (.iload 18, 2) := by decide +kernel
theorem dL_law_1305 : decode cL_law 1305 = .ok (.if_icmp .eq 31, 3) := by decide +kernel
theorem dL_law_1308 : decode cL_law 1308 = .ok (.iload 25, 2) := by decide +kernel
theorem dL_law_1310 : decode cL_law 1310 = .ok (.iload 13, 2) := by decide +kernel
theorem dL_law_1312 : decode cL_law 1312 = .ok (.if_icmp .gt 24, 3) := by decide +kernel
theorem dL_law_1315 : decode cL_law 1315 = .ok (.aload 17, 2) := by decide +kernel
theorem dL_law_1317 : decode cL_law 1317 = .ok (.iload 24, 2) := by decide +kernel
theorem dL_law_1319 : decode cL_law 1319 = .ok (.iaload, 1) := by decide +kernel
theorem dL_law_1320 : decode cL_law 1320 = .ok (.iload 22, 2) := by decide +kernel
theorem dL_law_1322 : decode cL_law 1322 = .ok (.if_icmp .ge 14, 3) := by decide +kernel
theorem dL_law_1325 : decode cL_law 1325 = .ok (.iload 23, 2) := by decide +kernel
theorem dL_law_1327 : decode cL_law 1327 = .ok (.istore 21, 2) := by decide +kernel
theorem dL_law_1329 : decode cL_law 1329 = .ok (.aload 17, 2) := by decide +kernel
theorem dL_law_1331 : decode cL_law 1331 = .ok (.iload 24, 2) := by decide +kernel
theorem dL_law_1333 : decode cL_law 1333 = .ok (.iaload, 1) := by decide +kernel
theorem dL_law_1334 : decode cL_law 1334 = .ok (.istore 22, 2) := by decide +kernel
theorem dL_law_1336 : decode cL_law 1336 = .ok (.iinc 23 1, 3) := by decide +kernel
theorem dL_law_1339 : decode cL_law 1339 = .ok (.goto (-100), 3) := by decide +kernel
theorem dL_law_1342 : decode cL_law 1342 = .ok (.iload 21, 2) := by decide +kernel
theorem dL_law_1344 : decode cL_law 1344 = .ok (.ifCond .lt 7, 3) := by decide +kernel
theorem dL_law_1347 : decode cL_law 1347 = .ok (.iconst 1, 1) := by decide +kernel
theorem dL_law_1348 : decode cL_law 1348 = .ok (.goto 4, 3) := by decide +kernel
theorem dL_law_1351 : decode cL_law 1351 = .ok (.iconst 0, 1) := by decide +kernel
theorem dL_law_1352 : decode cL_law 1352 = .ok (.istore 20, 2) := by decide +kernel
theorem dL_law_1354 : decode cL_law 1354 = .ok (.iload 20, 2) := by decide +kernel
theorem dL_law_1356 : decode cL_law 1356 = .ok (.ifCond .eq 57, 3) := by decide +kernel
theorem dL_law_1359 : decode cL_law 1359 = .ok (.aload_n 1, 1) := by decide +kernel
theorem dL_law_1360 : decode cL_law 1360 = .ok (.iload 13, 2) := by decide +kernel
theorem dL_law_1362 : decode cL_law 1362 = .ok (.bipush 10, 2) := by decide +kernel
theorem dL_law_1364 : decode cL_law 1364 = .ok (.iload 19, 2) := by decide +kernel
theorem dL_law_1366 : decode cL_law 1366 = .ok (.iadd, 1) := by decide +kernel
theorem dL_law_1367 : decode cL_law 1367 = .ok (.invokevirtual 136, 3) := by decide +kernel
theorem dL_law_1370 : decode cL_law 1370 = .ok (.iload 21, 2) := by decide +kernel
theorem dL_law_1372 : decode cL_law 1372 = .ok (.if_icmp .ne 27, 3) := by decide +kernel
theorem dL_law_1375 : decode cL_law 1375 = .ok (.aload_n 1, 1) := by decide +kernel
theorem dL_law_1376 : decode cL_law 1376 = .ok (.iload 18, 2) := by decide +kernel
theorem dL_law_1378 : decode cL_law 1378 = .ok (.iconst 1, 1) := by decide +kernel
theorem dL_law_1379 : decode cL_law 1379 = .ok (.iload 21, 2) := by decide +kernel
theorem dL_law_1381 : decode cL_law 1381 = .ok (.ishl, 1) := by decide +kernel
theorem dL_law_1382 : decode cL_law 1382 = .ok (.ior, 1) := by decide +kernel
theorem dL_law_1383 : decode cL_law 1383 = .ok (.iload 21, 2) := by decide +kernel
theorem dL_law_1385 : decode cL_law 1385 = .ok (.invokevirtual 139, 3) := by decide +kernel
theorem dL_law_1388 : decode cL_law 1388 = .ok (.aload 17, 2) := by decide +kernel
theorem dL_law_1390 : decode cL_law 1390 = .ok (.iload 18, 2) := by decide +kernel
theorem dL_law_1392 : decode cL_law 1392 = .ok (.iaload, 1) := by decide +kernel
theorem dL_law_1393 : decode cL_law 1393 = .ok (.iload 22, 2) := by decide +kernel
theorem dL_law_1395 : decode cL_law 1395 = .ok (.isub, 1) := by decide +kernel
theorem dL_law_1396 : decode cL_law 1396 = .ok (.if_icmp .eq 5, 3) := by decide +kernel
theorem dL_law_1399 : decode cL_law 1399 = .ok (.iconst 0, 1) := by decide +kernel
theorem dL_law_1400 : decode cL_law 1400 = .ok (.ireturn, 1) := by decide +kernel
theorem dL_law_1401 : decode cL_law 1401 = .ok (.iload 18, 2) := by decide +kernel
theorem dL_law_1403 : decode cL_law 1403 = .ok (.iconst 1, 1) := by decide +kernel
theorem dL_law_1404 : decode cL_law 1404 = .ok (.iload 21, 2) := by decide +kernel
theorem dL_law_1406 : decode cL_law 1406 = .ok (.ishl, 1) := by decide +kernel
theorem dL_law_1407 : decode cL_law 1407 = .ok (.ior, 1) := by decide +kernel
theorem dL_law_1408 : decode cL_law 1408 = .ok (.istore 18, 2) := by decide +kernel
theorem dL_law_1410 : decode cL_law 1410 = .ok (.iinc 19 1, 3) := by decide +kernel
theorem dL_law_1413 : decode cL_law 1413 = .ok (.goto (-192), 3) := by decide +kernel
theorem dL_law_1416 : decode cL_law 1416 = .ok (.aload_n 1, 1) := by decide +kernel
theorem dL_law_1417 : decode cL_law 1417 = .ok (.iload 13, 2) := by decide +kernel
theorem dL_law_1419 : decode cL_law 1419 = .ok (.iconst 0, 1) := by decide +kernel
theorem dL_law_1420 : decode cL_law 1420 = .ok (.invokevirtual 136, 3) := by decide +kernel
theorem dL_law_1423 : decode cL_law 1423 = .ok (.iload 18, 2) := by decide +kernel
theorem dL_law_1425 : decode cL_law 1425 = .ok (.if_icmp .ne 132, 3) := by decide +kernel
theorem dL_law_1428 : decode cL_law 1428 = .ok (.aload_n 1, 1) := by decide +kernel
theorem dL_law_1429 : decode cL_law 1429 = .ok (.iload 13, 2) := by decide +kernel
theorem dL_law_1431 : decode cL_law 1431 = .ok (.iconst 1, 1) := by decide +kernel
theorem dL_law_1432 : decode cL_law 1432 = .ok (.invokevirtual 136, 3) := by decide +kernel
theorem dL_law_1435 : decode cL_law 1435 = .ok (.aload 17, 2) := by decide +kernel
theorem dL_law_1437 : decode cL_law 1437 = .ok (.iload 18, 2) := by decide +kernel
theorem dL_law_1439 : decode cL_law 1439 = .ok (.iaload, 1) := by decide +kernel
theorem dL_law_1440 : decode cL_law 1440 = .ok (.if_icmp .ne 117, 3) := by decide +kernel
theorem dL_law_1443 : decode cL_law 1443 = .ok (.aload_n 1, 1) := by decide +kernel
theorem dL_law_1444 : decode cL_law 1444 = .ok (.iload 13, 2) := by decide +kernel
theorem dL_law_1446 : decode cL_law 1446 = .ok (.iconst 2, 1) := by decide +kernel
theorem dL_law_1447 : decode cL_law 1447 = .ok (.invokevirtual 136, 3) := by decide +kernel
theorem dL_law_1450 : decode cL_law 1450 = .ok (.iload 19, 2) := by decide +kernel
theorem dL_law_1452 : decode cL_law 1452 = .ok (.if_icmp .ne 105, 3) := by decide +kernel
theorem dL_law_1455 : decode cL_law 1455 = .ok (.aload_n 1, 1) := by decide +kernel
theorem dL_law_1456 : decode cL_law 1456 = .ok (.iload 13, 2) := by decide +kernel
theorem dL_law_1458 : decode cL_law 1458 = .ok (.bipush 10, 2) := by decide +kernel
theorem dL_law_1460 : decode cL_law 1460 = .ok (.iload 19, 2) := by decide +kernel
theorem dL_law_1462 : decode cL_law 1462 = .ok (.iadd, 1) := by decide +kernel
theorem dL_law_1463 : decode cL_law 1463 = .ok (.invokevirtual 136, 3) := by decide +kernel
theorem dL_law_1466 : decode cL_law 1466 = .ok (.iconst (-1), 1) := by decide +kernel
theorem dL_law_1467 : decode cL_law 1467 = .ok (.if_icmp .ne 90, 3) := by decide +kernel
theorem dL_law_1470 : decode cL_law 1470 = .ok (.aload 17, 2) := by decide +kernel
theorem dL_law_1472 : decode cL_law 1472 = .ok (.iload 18, 2) := by decide +kernel
theorem dL_law_1474 : decode cL_law 1474 = .ok (.iaload, 1) := by decide +kernel
theorem dL_law_1475 : decode cL_law 1475 = .ok (.iload 15, 2) := by decide +kernel
theorem dL_law_1477 : decode cL_law 1477 = .ok (.if_icmp .lt 80, 3) := by decide +kernel
theorem dL_law_1480 : decode cL_law 1480 = .ok (.aload_n 1, 1) := by decide +kernel
theorem dL_law_1481 : decode cL_law 1481 = .ok (.iconst 0, 1) := by decide +kernel
theorem dL_law_1482 : decode cL_law 1482 = .ok (.iload 6, 2) := by decide +kernel
theorem dL_law_1484 : decode cL_law 1484 = .ok (.iconst 1, 1) := by decide +kernel
theorem dL_law_1485 : decode cL_law 1485 = .ok (.iadd, 1) := by decide +kernel
theorem dL_law_1486 : decode cL_law 1486 = .ok (.invokevirtual 122, 3) := by decide +kernel
theorem dL_law_1489 : decode cL_law 1489 = .ok (.bipush (-101), 2) := by decide +kernel
theorem dL_law_1491 : decode cL_law 1491 = .ok (.if_icmp .ne 66, 3) := by decide +kernel
theorem dL_law_1494 : decode cL_law 1494 = .ok (.aload_n 1, 1) := by decide +kernel
theorem dL_law_1495 : decode cL_law 1495 = .ok (.iload 7, 2) := by decide +kernel
theorem dL_law_1497 : decode cL_law 1497 = .ok (.iconst 0, 1) := by decide +kernel
theorem dL_law_1498 : decode cL_law 1498 = .ok (.invokevirtual 122, 3) := by decide +kernel
theorem dL_law_1501 : decode cL_law 1501 = .ok (.bipush (-101), 2) := by decide +kernel
theorem dL_law_1503 : decode cL_law 1503 = .ok (.if_icmp .ne 54, 3) := by decide +kernel
theorem dL_law_1506 : decode cL_law 1506 = .ok (.aload_n 1, 1) := by decide +kernel
theorem dL_law_1507 : decode cL_law 1507 = .ok (.iconst 0, 1) := by decide +kernel
theorem dL_law_1508 : decode cL_law 1508 = .ok (.sipush 256, 3) := by decide +kernel
theorem dL_law_1511 : decode cL_law 1511 = .ok (.invokevirtual 127, 3) := by decide +kernel
theorem dL_law_1514 : decode cL_law 1514 = .ok (.bipush (-102), 2) := by decide +kernel
theorem dL_law_1516 : decode cL_law 1516 = .ok (.if_icmp .ne 41, 3) := by decide +kernel
theorem dL_law_1519 : decode cL_law 1519 = .ok (.aload_n 1, 1) := by decide +kernel
theorem dL_law_1520 : decode cL_law 1520 = .ok (.iconst (-1), 1) := by decide +kernel
theorem dL_law_1521 : decode cL_law 1521 = .ok (.invokevirtual 130, 3) := by decide +kernel
theorem dL_law_1524 : decode cL_law 1524 = .ok (.bipush (-102), 2) := by decide +kernel
theorem dL_law_1526 : decode cL_law 1526 = .ok (.if_icmp .ne 31, 3) := by decide +kernel
theorem dL_law_1529 : decode cL_law 1529 = .ok (.aload_n 1, 1) := by decide +kernel
theorem dL_law_1530 : decode cL_law 1530 = .ok (.sipush 10000, 3) := by decide +kernel
theorem dL_law_1533 : decode cL_law 1533 = .ok (.iconst 0, 1) := by decide +kernel
theorem dL_law_1534 : decode cL_law 1534 = .ok (.invokevirtual 133, 3) := by decide +kernel
theorem dL_law_1537 : decode cL_law 1537 = .ok (.bipush (-102), 2) := by decide +kernel
theorem dL_law_1539 : decode cL_law 1539 = .ok (.if_icmp .ne 18, 3) := by decide +kernel
theorem dL_law_1542 : decode cL_law 1542 = .ok (.aload_n 1, 1) := by decide +kernel
theorem dL_law_1543 : decode cL_law 1543 = .ok (.iconst 0, 1) := by decide +kernel
theorem dL_law_1544 : decode cL_law 1544 = .ok (.iconst 3, 1) := by decide +kernel
theorem dL_law_1545 : decode cL_law 1545 = .ok (.invokevirtual 136, 3) := by decide +kernel
theorem dL_law_1548 : decode cL_law 1548 = .ok (.bipush (-102), 2) := by decide +kernel
theorem dL_law_1550 : decode cL_law 1550 = .ok (.if_icmp .ne 7, 3) := by decide +kernel
theorem dL_law_1553 : decode cL_law 1553 = .ok (.iconst 1, 1) := by decide +kernel
theorem dL_law_1554 : decode cL_law 1554 = .ok (.goto 4, 3) := by decide +kernel
theorem dL_law_1557 : decode cL_law 1557 = .ok (.iconst 0, 1) := by decide +kernel
theorem dL_law_1558 : decode cL_law 1558 = .ok (.ireturn, 1) := by decide +kernel
