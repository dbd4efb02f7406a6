theorem dX11_about_13 : decode cX11_about 13 = .ok (.bipush (-101), 2) := by decide +kernel
theorem dX11_about_15 : decode cX11_about 15 = .ok (.ireturn, 1) := by decide +kernel
theorem dX11_about_16 : decode cX11_about 16 = .ok (.iload_n 2, 1) := by decide +kernel
theorem dX11_about_17 : decode cX11_about 17 = .ok (.tableswitch 60 0 4 #[35, 40, 45, 50, 55], 35) := by decide +kernel
theorem dX11_about_52 : decode cX11_about 52 = .ok (.aload_n 3, 1) := by decide +kernel
theorem dX11_about_53 : decode cX11_about 53 = .ok (.invokevirtual 150, 3) := by decide +kernel
theorem dX11_about_56 : decode cX11_about 56 = .ok (.ireturn, 1) := by decide +kernel
theorem dX11_about_57 : decode cX11_about 57 = .ok (.aload_n 3, 1) := by decide +kernel
theorem dX11_about_58 : decode cX11_about 58 = .ok (.invokevirtual 153, 3) := by decide +kernel
theorem dX11_about_61 : decode cX11_about 61 = .ok (.ireturn, 1) := by decide +kernel
theorem dX11_about_62 : decode cX11_about 62 = .ok (.aload_n 3, 1) := by decide +kernel
theorem dX11_about_63 : decode cX11_about 63 = .ok (.invokevirtual 156, 3) := by decide +kernel
theorem dX11_about_66 : decode cX11_about 66 = .ok (.ireturn, 1) := by decide +kernel
theorem dX11_about_67 : decode cX11_about 67 = .ok (.aload_n 3, 1) := by decide +kernel
theorem dX11_about_68 : decode cX11_about 68 = .ok (.invokevirtual 144, 3) := by decide +kernel
theorem dX11_about_71 : decode cX11_about 71 = .ok (.ireturn, 1) := by decide +kernel
theorem dX11_about_72 : decode cX11_about 72 = .ok (.aload_n 3, 1) := by decide +kernel
theorem dX11_about_73 : decode cX11_about 73 = .ok (.invokevirtual 159, 3) := by decide +kernel
theorem dX11_about_76 : decode cX11_about 76 = .ok (.ireturn, 1) := by decide +kernel
theorem dX11_about_77 : decode cX11_about 77 = .ok (.bipush (-102), 2) := by decide +kernel
theorem dX11_about_79 : decode cX11_about 79 = .ok (.ireturn, 1) := by decide +kernel
theorem dX11_entry_0 : decode cX11_entry 0 = .ok (.aload_n 0, 1) := by decide +kernel
theorem dX11_entry_1 : decode cX11_entry 1 = .ok (.getfield 40, 3) := by decide +kernel
theorem dX11_entry_4 : decode cX11_entry 4 = .ok (.iload_n 1, 1) := by decide +kernel
theorem dX11_entry_5 : decode cX11_entry 5 = .ok (.invokevirtual 137, 3) := by decide +kernel
theorem dX11_entry_8 : decode cX11_entry 8 = .ok (.astore_n 3, 1) := by decide +kernel
theorem dX11_entry_9 : decode cX11_entry 9 = .ok (.aload_n 3, 1) := by decide +kernel
theorem dX11_entry_10 : decode cX11_entry 10 = .ok (.ifnonnull 8, 3) := by decide +kernel
theorem dX11_entry_13 : decode cX11_entry 13 = .ok (.bipush (-101), 2) := by decide +kernel
theorem dX11_entry_15 : decode cX11_entry 15 = .ok (.goto 8, 3) := by decide +kernel
theorem dX11_entry_18 : decode cX11_entry 18 = .ok (.aload_n 3, 1) := by decide +kernel
theorem dX11_entry_19 : decode cX11_entry 19 = .ok (.iload_n 2, 1) := by decide +kernel
theorem dX11_entry_20 : decode cX11_entry 20 = .ok (.invokevirtual 162, 3) := by decide +kernel
theorem dX11_entry_23 : decode cX11_entry 23 = .ok (.ireturn, 1) := by decide +kernel
theorem dX11_leaf_0 : decode cX11_leaf 0 = .ok (.aload_n 0, 1) := by decide +kernel
theorem dX11_leaf_1 : decode cX11_leaf 1 = .ok (.getfield 40, 3) := by decide +kernel
theorem dX11_leaf_4 : decode cX11_leaf 4 = .ok (.iload_n 1, 1) := by decide +kernel
theorem dX11_leaf_5 : decode cX11_leaf 5 = .ok (.invokevirtual 137, 3) := by decide +kernel
theorem dX11_leaf_8 : decode cX11_leaf 8 = .ok (.astore_n 3, 1) := by decide +kernel
theorem dX11_leaf_9 : decode cX11_leaf 9 = .ok (.aload_n 3, 1) := by decide +kernel
theorem dX11_leaf_10 : decode cX11_leaf 10 = .ok (.ifnonnull 8, 3) := by decide +kernel
theorem dX11_leaf_13 : decode cX11_leaf 13 = .ok (.bipush (-101), 2) := by decide +kernel
theorem dX11_leaf_15 : decode cX11_leaf 15 = .ok (.goto 8, 3) := by decide +kernel
theorem dX11_leaf_18 : decode cX11_leaf 18 = .ok (.aload_n 3, 1) := by decide +kernel
theorem dX11_leaf_19 : decode cX11_leaf 19 = .ok (.iload_n 2, 1) := by decide +kernel
theorem dX11_leaf_20 : decode cX11_leaf 20 = .ok (.invokevirtual 165, 3) := by decide +kernel
theorem dX11_leaf_23 : decode cX11_leaf 23 = .ok (.ireturn, 1) := by decide +kernel
theorem dX11_letters_0 : decode cX11_letters 0 = .ok (.lload_n 1, 1) := by decide +kernel
theorem dX11_letters_1 : decode cX11_letters 1 = .ok (.invokestatic 168, 3) := by decide +kernel
theorem dX11_letters_4 : decode cX11_letters 4 = .ok (.istore_n 3, 1) := by decide +kernel
theorem dX11_letters_5 : decode cX11_letters 5 = .ok (.iload_n 3, 1) := by decide +kernel
theorem dX11_letters_6 : decode cX11_letters 6 = .ok (.iconst (-1), 1) := by decide +kernel
theorem dX11_letters_7 : decode cX11_letters 7 = .ok (.if_icmp .ne 6, 3) := by decide +kernel
theorem dX11_letters_10 : decode cX11_letters 10 = .ok (.bipush (-102), 2) := by decide +kernel
theorem dX11_letters_12 : decode cX11_letters 12 = .ok (.ireturn, 1) := by decide +kernel
theorem dX11_letters_13 : decode cX11_letters 13 = .ok (.aload_n 0, 1) := by decide +kernel
theorem dX11_letters_14 : decode cX11_letters 14 = .ok (.getfield 10, 3) := by decide +kernel
theorem dX11_letters_17 : decode cX11_letters 17 = .ok (.invokevirtual 172, 3) := by decide +kernel
theorem dX11_letters_20 : decode cX11_letters 20 = .ok (.iload_n 3, 1) := by decide +kernel
theorem dX11_letters_21 : decode cX11_letters 21 = .ok (.iadd, 1) := by decide +kernel
theorem dX11_letters_22 : decode cX11_letters 22 = .ok (.bipush 60, 2) := by decide +kernel
theorem dX11_letters_24 : decode cX11_letters 24 = .ok (.if_icmp .le 6, 3) := by decide +kernel
theorem dX11_letters_27 : decode cX11_letters 27 = .ok (.bipush (-104), 2) := by decide +kernel
theorem dX11_letters_29 : decode cX11_letters 29 = .ok (.ireturn, 1) := by decide +kernel
theorem dX11_letters_30 : decode cX11_letters 30 = .ok (.iconst 0, 1) := by decide +kernel
theorem dX11_letters_31 : decode cX11_letters 31 = .ok (.istore 4, 2) := by decide +kernel
theorem dX11_letters_33 : decode cX11_letters 33 = .ok (.iload 4, 2) := by decide +kernel
theorem dX11_letters_35 : decode cX11_letters 35 = .ok (.iload_n 3, 1) := by decide +kernel
theorem dX11_letters_36 : decode cX11_letters 36 = .ok (.if_icmp .ge 22, 3) := by decide +kernel
theorem dX11_letters_39 : decode cX11_letters 39 = .ok (.aload_n 0, 1) := by decide +kernel
theorem dX11_letters_40 : decode cX11_letters 40 = .ok (.getfield 10, 3) := by decide +kernel
theorem dX11_letters_43 : decode cX11_letters 43 = .ok (.lload_n 1, 1) := by decide +kernel
theorem dX11_letters_44 : decode cX11_letters 44 = .ok (.iload 4, 2) := by decide +kernel
theorem dX11_letters_46 : decode cX11_letters 46 = .ok (.invokestatic 175, 3) := by decide +kernel
theorem dX11_letters_49 : decode cX11_letters 49 = .ok (.invokevirtual 179, 3) := by decide +kernel
theorem dX11_letters_52 : decode cX11_letters 52 = .ok (.iinc 4 1, 3) := by decide +kernel
theorem dX11_letters_55 : decode cX11_letters 55 = .ok (.goto (-22), 3) := by decide +kernel
theorem dX11_letters_58 : decode cX11_letters 58 = .ok (.aload_n 0, 1) := by decide +kernel
theorem dX11_letters_59 : decode cX11_letters 59 = .ok (.getfield 10, 3) := by decide +kernel
theorem dX11_letters_62 : decode cX11_letters 62 = .ok (.invokevirtual 172, 3) := by decide +kernel
theorem dX11_letters_65 : decode cX11_letters 65 = .ok (.ireturn, 1) := by decide +kernel
theorem dX11_blank_0 : decode cX11_blank 0 = .ok (.aload_n 0, 1) := by decide +kernel
theorem dX11_blank_1 : decode cX11_blank 1 = .ok (.getfield 10, 3) := by decide +kernel
theorem dX11_blank_4 : decode cX11_blank 4 = .ok (.invokevirtual 172, 3) := by decide +kernel
theorem dX11_blank_7 : decode cX11_blank 7 = .ok (.istore_n 1, 1) := by decide +kernel
theorem dX11_blank_8 : decode cX11_blank 8 = .ok (.aload_n 0, 1) := by decide +kernel
theorem dX11_blank_9 : decode cX11_blank 9 = .ok (.getfield 10, 3) := by decide +kernel
theorem dX11_blank_12 : decode cX11_blank 12 = .ok (.invokevirtual 182, 3) := by decide +kernel
theorem dX11_blank_15 : decode cX11_blank 15 = .ok (.iload_n 1, 1) := by decide +kernel
theorem dX11_blank_16 : decode cX11_blank 16 = .ok (.ireturn, 1) := by decide +kernel
theorem dX11_good_0 : decode cX11_good 0 = .ok (.aload_n 0, 1) := by decide +kernel
theorem dX11_good_1 : decode cX11_good 1 = .ok (.getfield 10, 3) := by decide +kernel
theorem dX11_good_4 : decode cX11_good 4 = .ok (.invokevirtual 185, 3) := by decide +kernel
theorem dX11_good_7 : decode cX11_good 7 = .ok (.ireturn, 1) := by decide +kernel
theorem dX11_ask_0 : decode cX11_ask 0 = .ok (.aload_n 0, 1) := by decide +kernel
theorem dX11_ask_1 : decode cX11_ask 1 = .ok (.getfield 10, 3) := by decide +kernel
theorem dX11_ask_4 : decode cX11_ask 4 = .ok (.invokevirtual 185, 3) := by decide +kernel
theorem dX11_ask_7 : decode cX11_ask 7 = .ok (.aload_n 0, 1) := by decide +kernel
theorem dX11_ask_8 : decode cX11_ask 8 = .ok (.getfield 10, 3) := by decide +kernel
theorem dX11_ask_11 : decode cX11_ask 11 = .ok (.invokevirtual 172, 3) := by decide +kernel
theorem dX11_ask_14 : decode cX11_ask 14 = .ok (.if_icmp .lt 13, 3) := by decide +kernel
theorem dX11_ask_17 : decode cX11_ask 17 = .ok (.aload_n 0, 1) := by decide +kernel
theorem dX11_ask_18 : decode cX11_ask 18 = .ok (.getfield 10, 3) := by decide +kernel
theorem dX11_ask_21 : decode cX11_ask 21 = .ok (.invokevirtual 188, 3) := by decide +kernel
theorem dX11_ask_24 : decode cX11_ask 24 = .ok (.ifCond .ne 6, 3) := by decide +kernel
theorem dX11_ask_27 : decode cX11_ask 27 = .ok (.bipush (-103), 2) := by decide +kernel
theorem dX11_ask_29 : decode cX11_ask 29 = .ok (.ireturn, 1) := by decide +kernel
theorem dX11_ask_30 : decode cX11_ask 30 = .ok (.aload_n 0, 1) := by decide +kernel
theorem dX11_ask_31 : decode cX11_ask 31 = .ok (.getfield 53, 3) := by decide +kernel
theorem dX11_ask_34 : decode cX11_ask 34 = .ok (.invokevirtual 192, 3) := by decide +kernel
theorem dX11_ask_37 : decode cX11_ask 37 = .ok (.bipush 8, 2) := by decide +kernel
theorem dX11_ask_39 : decode cX11_ask 39 = .ok (.if_icmp .lt 6, 3) := by decide +kernel
theorem dX11_ask_42 : decode cX11_ask 42 = .ok (.bipush (-104), 2) := by decide +kernel
theorem dX11_ask_44 : decode cX11_ask 44 = .ok (.ireturn, 1) := by decide +kernel
theorem dX11_ask_45 : decode cX11_ask 45 = .ok (.aload_n 0, 1) := by decide +kernel
theorem dX11_ask_46 : decode cX11_ask 46 = .ok (.getfield 53, 3) := by decide +kernel
theorem dX11_ask_49 : decode cX11_ask 49 = .ok (.aload_n 0, 1) := by decide +kernel
theorem dX11_ask_50 : decode cX11_ask 50 = .ok (.getfield 10, 3) := by decide +kernel
theorem dX11_ask_53 : decode cX11_ask 53 = .ok (.invokevirtual 195, 3) := by decide +kernel
theorem dX11_ask_56 : decode cX11_ask 56 = .ok (.invokevirtual 199, 3) := by decide +kernel
theorem dX11_ask_59 : decode cX11_ask 59 = .ok (.istore_n 1, 1) := by decide +kernel
theorem dX11_ask_60 : decode cX11_ask 60 = .ok (.aload_n 0, 1) := by decide +kernel
theorem dX11_ask_61 : decode cX11_ask 61 = .ok (.getfield 10, 3) := by decide +kernel
theorem dX11_ask_64 : decode cX11_ask 64 = .ok (.invokevirtual 182, 3) := by decide +kernel
theorem dX11_ask_67 : decode cX11_ask 67 = .ok (.iload_n 1, 1) := by decide +kernel
theorem dX11_ask_68 : decode cX11_ask 68 = .ok (.ireturn, 1) := by decide +kernel
theorem dX11_bound_0 : decode cX11_bound 0 = .ok (.aload_n 0, 1) := by decide +kernel
theorem dX11_bound_1 : decode cX11_bound 1 = .ok (.getfield 53, 3) := by decide +kernel
theorem dX11_bound_4 : decode cX11_bound 4 = .ok (.iload_n 1, 1) := by decide +kernel
theorem dX11_bound_5 : decode cX11_bound 5 = .ok (.invokevirtual 203, 3) := by decide +kernel
theorem dX11_bound_8 : decode cX11_bound 8 = .ok (.astore 4, 2) := by decide +kernel
theorem dX11_bound_10 : decode cX11_bound 10 = .ok (.aload 4, 2) := by decide +kernel
theorem dX11_bound_12 : decode cX11_bound 12 = .ok (.ifnull 10, 3) := by decide +kernel
theorem dX11_bound_15 : decode cX11_bound 15 = .ok (.iload_n 2, 1) := by decide +kernel
theorem dX11_bound_16 : decode cX11_bound 16 = .ok (.invokestatic 83, 3) := by decide +kernel
theorem dX11_bound_19 : decode cX11_bound 19 = .ok (.ifCond .ne 6, 3) := by decide +kernel
theorem dX11_bound_22 : decode cX11_bound 22 = .ok (.bipush (-101), 2) := by decide +kernel
theorem dX11_bound_24 : decode cX11_bound 24 = .ok (.ireturn, 1) := by decide +kernel
theorem dX11_bound_25 : decode cX11_bound 25 = .ok (.iload_n 3, 1) := by decide +kernel
theorem dX11_bound_26 : decode cX11_bound 26 = .ok (.ifCond .eq 11, 3) := by decide +kernel
theorem dX11_bound_29 : decode cX11_bound 29 = .ok (.iload_n 3, 1) := by decide +kernel
theorem dX11_bound_30 : decode cX11_bound 30 = .ok (.iconst 1, 1) := by decide +kernel
theorem dX11_bound_31 : decode cX11_bound 31 = .ok (.if_icmp .eq 6, 3) := by decide +kernel
theorem dX11_bound_34 : decode cX11_bound 34 = .ok (.bipush (-102), 2) := by decide +kernel
theorem dX11_bound_36 : decode cX11_bound 36 = .ok (.ireturn, 1) := by decide +kernel
theorem dX11_bound_37 : decode cX11_bound 37 = .ok (.aload 4, 2) := by decide +kernel
theorem dX11_bound_39 : decode cX11_bound 39 = .ok (.iload_n 2, 1) := by decide +kernel
theorem dX11_bound_40 : decode cX11_bound 40 = .ok (.invokevirtual 207, 3) := by decide +kernel
theorem dX11_bound_43 : decode cX11_bound 43 = .ok (.ifCond .eq 13, 3) := by decide +kernel
theorem dX11_bound_46 : decode cX11_bound 46 = .ok (.iload_n 3, 1) := by decide +kernel
theorem dX11_bound_47 : decode cX11_bound 47 = .ok (.ifCond .ne 7, 3) := by decide +kernel
theorem dX11_bound_50 : decode cX11_bound 50 = .ok (.iconst 0, 1) := by decide +kernel
theorem dX11_bound_51 : decode cX11_bound 51 = .ok (.goto 4, 3) := by decide +kernel
theorem dX11_bound_54 : decode cX11_bound 54 = .ok (.iconst (-1), 1) := by decide +kernel
theorem dX11_bound_55 : decode cX11_bound 55 = .ok (.ireturn, 1) := by decide +kernel
theorem dX11_bound_56 : decode cX11_bound 56 = .ok (.iload_n 3, 1) := by decide +kernel
theorem dX11_bound_57 : decode cX11_bound 57 = .ok (.ifCond .ne 12, 3) := by decide +kernel
theorem dX11_bound_60 : decode cX11_bound 60 = .ok (.aload 4, 2) := by decide +kernel
theorem dX11_bound_62 : decode cX11_bound 62 = .ok (.iload_n 2, 1) := by decide +kernel
theorem dX11_bound_63 : decode cX11_bound 63 = .ok (.invokevirtual 212, 3) := by decide +kernel
theorem dX11_bound_66 : decode cX11_bound 66 = .ok (.goto 9, 3) := by decide +kernel
theorem dX11_bound_69 : decode cX11_bound 69 = .ok (.aload 4, 2) := by decide +kernel
theorem dX11_bound_71 : decode cX11_bound 71 = .ok (.iload_n 2, 1) := by decide +kernel
theorem dX11_bound_72 : decode cX11_bound 72 = .ok (.invokevirtual 215, 3) := by decide +kernel
theorem dX11_bound_75 : decode cX11_bound 75 = .ok (.ireturn, 1) := by decide +kernel
theorem dX11_weight_0 : decode cX11_weight 0 = .ok (.aload_n 0, 1) := by decide +kernel
theorem dX11_weight_1 : decode cX11_weight 1 = .ok (.getfield 53, 3) := by decide +kernel
theorem dX11_weight_4 : decode cX11_weight 4 = .ok (.iload_n 1, 1) := by decide +kernel
theorem dX11_weight_5 : decode cX11_weight 5 = .ok (.invokevirtual 203, 3) := by decide +kernel
theorem dX11_weight_8 : decode cX11_weight 8 = .ok (.astore_n 3, 1) := by decide +kernel
theorem dX11_weight_9 : decode cX11_weight 9 = .ok (.aload_n 3, 1) := by decide +kernel
theorem dX11_weight_10 : decode cX11_weight 10 = .ok (.ifnonnull 6, 3) := by decide +kernel
theorem dX11_weight_13 : decode cX11_weight 13 = .ok (.bipush (-101), 2) := by decide +kernel
theorem dX11_weight_15 : decode cX11_weight 15 = .ok (.ireturn, 1) := by decide +kernel
theorem dX11_weight_16 : decode cX11_weight 16 = .ok (.iload_n 2, 1) := by decide +kernel
theorem dX11_weight_17 : decode cX11_weight 17 = .ok (.invokestatic 64, 3) := by decide +kernel
theorem dX11_weight_20 : decode cX11_weight 20 = .ok (.ifCond .ne 6, 3) := by decide +kernel
theorem dX11_weight_23 : decode cX11_weight 23 = .ok (.bipush (-102), 2) := by decide +kernel
theorem dX11_weight_25 : decode cX11_weight 25 = .ok (.ireturn, 1) := by decide +kernel
theorem dX11_weight_26 : decode cX11_weight 26 = .ok (.aload_n 3, 1) := by decide +kernel
theorem dX11_weight_27 : decode cX11_weight 27 = .ok (.invokevirtual 218, 3) := by decide +kernel
theorem dX11_weight_30 : decode cX11_weight 30 = .ok (.istore 4, 2) := by decide +kernel
theorem dX11_weight_32 : decode cX11_weight 32 = .ok (.aload_n 3, 1) := by decide +kernel
theorem dX11_weight_33 : decode cX11_weight 33 = .ok (.iload_n 2, 1) := by decide +kernel
theorem dX11_weight_34 : decode cX11_weight 34 = .ok (.invokevirtual 221, 3) := by decide +kernel
theorem dX11_weight_37 : decode cX11_weight 37 = .ok (.iload 4, 2) := by decide +kernel
theorem dX11_weight_39 : decode cX11_weight 39 = .ok (.ireturn, 1) := by decide +kernel
theorem dX11_answers_0 : decode cX11_answers 0 = .ok (.aload_n 0, 1) := by decide +kernel
theorem dX11_answers_1 : decode cX11_answers 1 = .ok (.getfield 53, 3) := by decide +kernel
theorem dX11_answers_4 : decode cX11_answers 4 = .ok (.iload_n 1, 1) := by decide +kernel
theorem dX11_answers_5 : decode cX11_answers 5 = .ok (.invokevirtual 203, 3) := by decide +kernel
theorem dX11_answers_8 : decode cX11_answers 8 = .ok (.astore_n 2, 1) := by decide +kernel
theorem dX11_answers_9 : decode cX11_answers 9 = .ok (.aload_n 2, 1) := by decide +kernel
theorem dX11_answers_10 : decode cX11_answers 10 = .ok (.ifnonnull 8, 3) := by decide +kernel
theorem dX11_answers_13 : decode cX11_answers 13 = .ok (.bipush (-101), 2) := by decide +kernel
theorem dX11_answers_15 : decode cX11_answers 15 = .ok (.goto 16, 3) := by decide +kernel
theorem dX11_answers_18 : decode cX11_answers 18 = .ok (.aload_n 2, 1) := by decide +kernel
theorem dX11_answers_19 : decode cX11_answers 19 = .ok (.aload_n 0, 1) := by decide +kernel
theorem dX11_answers_20 : decode cX11_answers 20 = .ok (.getfield 36, 3) := by decide +kernel
theorem dX11_answers_23 : decode cX11_answers 23 = .ok (.bipush 15, 2) := by decide +kernel
theorem dX11_answers_25 : decode cX11_answers 25 = .ok (.invokevirtual 224, 3) := by decide +kernel
theorem dX11_answers_28 : decode cX11_answers 28 = .ok (.invokestatic 228, 3) := by decide +kernel
theorem dX11_answers_31 : decode cX11_answers 31 = .ok (.ireturn, 1) := by decide +kernel
theorem dX11_answer_0 : decode cX11_answer 0 = .ok (.aload_n 0, 1) := by decide +kernel
theorem dX11_answer_1 : decode cX11_answer 1 = .ok (.getfield 53, 3) := by decide +kernel
theorem dX11_answer_4 : decode cX11_answer 4 = .ok (.iload_n 1, 1) := by decide +kernel
theorem dX11_answer_5 : decode cX11_answer 5 = .ok (.invokevirtual 203, 3) := by decide +kernel
theorem dX11_answer_8 : decode cX11_answer 8 = .ok (.astore_n 3, 1) := by decide +kernel
theorem dX11_answer_9 : decode cX11_answer 9 = .ok (.aload_n 3, 1) := by decide +kernel
theorem dX11_answer_10 : decode cX11_answer 10 = .ok (.ifnonnull 8, 3) := by decide +kernel
theorem dX11_answer_13 : decode cX11_answer 13 = .ok (.bipush (-101), 2) := by decide +kernel
theorem dX11_answer_15 : decode cX11_answer 15 = .ok (.goto 12, 3) := by decide +kernel
theorem dX11_answer_18 : decode cX11_answer 18 = .ok (.aload_n 3, 1) := by decide +kernel
theorem dX11_answer_19 : decode cX11_answer 19 = .ok (.aload_n 0, 1) := by decide +kernel
theorem dX11_answer_20 : decode cX11_answer 20 = .ok (.getfield 36, 3) := by decide +kernel
theorem dX11_answer_23 : decode cX11_answer 23 = .ok (.iload_n 2, 1) := by decide +kernel
theorem dX11_answer_24 : decode cX11_answer 24 = .ok (.invokevirtual 233, 3) := by decide +kernel
theorem dX11_answer_27 : decode cX11_answer 27 = .ok (.ireturn, 1) := by decide +kernel
theorem dX11_looks_0 : decode cX11_looks 0 = .ok (.aload_n 0, 1) := by decide +kernel
theorem dX11_looks_1 : decode cX11_looks 1 = .ok (.getfield 53, 3) := by decide +kernel
theorem dX11_looks_4 : decode cX11_looks 4 = .ok (.iload_n 1, 1) := by decide +kernel
theorem dX11_looks_5 : decode cX11_looks 5 = .ok (.invokevirtual 203, 3) := by decide +kernel
theorem dX11_looks_8 : decode cX11_looks 8 = .ok (.astore_n 3, 1) := by decide +kernel
theorem dX11_looks_9 : decode cX11_looks 9 = .ok (.aload_n 3, 1) := by decide +kernel
theorem dX11_looks_10 : decode cX11_looks 10 = .ok (.ifnonnull 6, 3) := by decide +kernel
theorem dX11_looks_13 : decode cX11_looks 13 = .ok (.bipush (-101), 2) := by decide +kernel
theorem dX11_looks_15 : decode cX11_looks 15 = .ok (.ireturn, 1) := by decide +kernel
theorem dX11_looks_16 : decode cX11_looks 16 = .ok (.aload_n 0, 1) := by decide +kernel
theorem dX11_looks_17 : decode cX11_looks 17 = .ok (.getfield 44, 3) := by decide +kernel
theorem dX11_looks_20 : decode cX11_looks 20 = .ok (.aload_n 3, 1) := by decide +kernel
theorem dX11_looks_21 : decode cX11_looks 21 = .ok (.invokevirtual 237, 3) := by decide +kernel
theorem dX11_looks_24 : decode cX11_looks 24 = .ok (.aload_n 0, 1) := by decide +kernel
theorem dX11_looks_25 : decode cX11_looks 25 = .ok (.getfield 44, 3) := by decide +kernel
theorem dX11_looks_28 : decode cX11_looks 28 = .ok (.iload_n 2, 1) := by decide +kernel
theorem dX11_looks_29 : decode cX11_looks 29 = .ok (.invokevirtual 241, 3) := by decide +kernel
theorem dX11_looks_32 : decode cX11_looks 32 = .ok (.istore 4, 2) := by decide +kernel
theorem dX11_looks_34 : decode cX11_looks 34 = .ok (.iload 4, 2) := by decide +kernel
theorem dX11_looks_36 : decode cX11_looks 36 = .ok (.iconst (-1), 1) := by decide +kernel
theorem dX11_looks_37 : decode cX11_looks 37 = .ok (.if_icmp .ne 8, 3) := by decide +kernel
theorem dX11_looks_40 : decode cX11_looks 40 = .ok (.bipush (-101), 2) := by decide +kernel
theorem dX11_looks_42 : decode cX11_looks 42 = .ok (.goto 12, 3) := by decide +kernel
theorem dX11_looks_45 : decode cX11_looks 45 = .ok (.aload_n 0, 1) := by decide +kernel
theorem dX11_looks_46 : decode cX11_looks 46 = .ok (.getfield 44, 3) := by decide +kernel
theorem dX11_looks_49 : decode cX11_looks 49 = .ok (.iload 4, 2) := by decide +kernel
theorem dX11_looks_51 : decode cX11_looks 51 = .ok (.invokevirtual 244, 3) := by decide +kernel
theorem dX11_looks_54 : decode cX11_looks 54 = .ok (.ireturn, 1) := by decide +kernel
theorem dX11_run_0 : decode cX11_run 0 = .ok (.aload_n 0, 1) := by decide +kernel
theorem dX11_run_1 : decode cX11_run 1 = .ok (.getfield 53, 3) := by decide +kernel
theorem dX11_run_4 : decode cX11_run 4 = .ok (.iload_n 1, 1) := by decide +kernel
theorem dX11_run_5 : decode cX11_run 5 = .ok (.invokevirtual 203, 3) := by decide +kernel
theorem dX11_run_8 : decode cX11_run 8 = .ok (.astore_n 3, 1) := by decide +kernel
theorem dX11_run_9 : decode cX11_run 9 = .ok (.aload_n 0, 1) := by decide +kernel
theorem dX11_run_10 : decode cX11_run 10 = .ok (.getfield 40, 3) := by decide +kernel
theorem dX11_run_13 : decode cX11_run 13 = .ok (.iload_n 2, 1) := by decide +kernel
theorem dX11_run_14 : decode cX11_run 14 = .ok (.invokevirtual 137, 3) := by decide +kernel
theorem dX11_run_17 : decode cX11_run 17 = .ok (.astore 4, 2) := by decide +kernel
theorem dX11_run_19 : decode cX11_run 19 = .ok (.aload_n 3, 1) := by decide +kernel
theorem dX11_run_20 : decode cX11_run 20 = .ok (.ifnull 8, 3) := by decide +kernel
theorem dX11_run_23 : decode cX11_run 23 = .ok (.aload 4, 2) := by decide +kernel
theorem dX11_run_25 : decode cX11_run 25 = .ok (.ifnonnull 6, 3) := by decide +kernel
theorem dX11_run_28 : decode cX11_run 28 = .ok (.bipush (-101), 2) := by decide +kernel
theorem dX11_run_30 : decode cX11_run 30 = .ok (.ireturn, 1) := by decide +kernel
theorem dX11_run_31 : decode cX11_run 31 = .ok (.aload_n 3, 1) := by decide +kernel
theorem dX11_run_32 : decode cX11_run 32 = .ok (.aload_n 0, 1) := by decide +kernel
theorem dX11_run_33 : decode cX11_run 33 = .ok (.getfield 36, 3) := by decide +kernel
theorem dX11_run_36 : decode cX11_run 36 = .ok (.aload 4, 2) := by decide +kernel
theorem dX11_run_38 : decode cX11_run 38 = .ok (.aload_n 3, 1) := by decide +kernel
theorem dX11_run_39 : decode cX11_run 39 = .ok (.invokevirtual 247, 3) := by decide +kernel
theorem dX11_run_42 : decode cX11_run 42 = .ok (.invokevirtual 224, 3) := by decide +kernel
theorem dX11_run_45 : decode cX11_run 45 = .ok (.invokestatic 228, 3) := by decide +kernel
theorem dX11_run_48 : decode cX11_run 48 = .ok (.ireturn, 1) := by decide +kernel
theorem dX11_best_0 : decode cX11_best 0 = .ok (.aload_n 0, 1) := by decide +kernel
theorem dX11_best_1 : decode cX11_best 1 = .ok (.getfield 53, 3) := by decide +kernel
theorem dX11_best_4 : decode cX11_best 4 = .ok (.iload_n 1, 1) := by decide +kernel
theorem dX11_best_5 : decode cX11_best 5 = .ok (.invokevirtual 203, 3) := by decide +kernel
theorem dX11_best_8 : decode cX11_best 8 = .ok (.astore_n 3, 1) := by decide +kernel
theorem dX11_best_9 : decode cX11_best 9 = .ok (.aload_n 3, 1) := by decide +kernel
theorem dX11_best_10 : decode cX11_best 10 = .ok (.ifnonnull 6, 3) := by decide +kernel
theorem dX11_best_13 : decode cX11_best 13 = .ok (.bipush (-101), 2) := by decide +kernel
theorem dX11_best_15 : decode cX11_best 15 = .ok (.ireturn, 1) := by decide +kernel
theorem dX11_best_16 : decode cX11_best 16 = .ok (.iload_n 2, 1) := by decide +kernel
theorem dX11_best_17 : decode cX11_best 17 = .ok (.invokestatic 250, 3) := by decide +kernel
theorem dX11_best_20 : decode cX11_best 20 = .ok (.ifCond .ne 6, 3) := by decide +kernel
theorem dX11_best_23 : decode cX11_best 23 = .ok (.bipush (-102), 2) := by decide +kernel
theorem dX11_best_25 : decode cX11_best 25 = .ok (.ireturn, 1) := by decide +kernel
theorem dX11_best_26 : decode cX11_best 26 = .ok (.aload_n 0, 1) := by decide +kernel
theorem dX11_best_27 : decode cX11_best 27 = .ok (.getfield 44, 3) := by decide +kernel
theorem dX11_best_30 : decode cX11_best 30 = .ok (.aload_n 3, 1) := by decide +kernel
theorem dX11_best_31 : decode cX11_best 31 = .ok (.invokevirtual 237, 3) := by decide +kernel
theorem dX11_best_34 : decode cX11_best 34 = .ok (.aload_n 0, 1) := by decide +kernel
theorem dX11_best_35 : decode cX11_best 35 = .ok (.getfield 44, 3) := by decide +kernel
theorem dX11_best_38 : decode cX11_best 38 = .ok (.aload_n 0, 1) := by decide +kernel
theorem dX11_best_39 : decode cX11_best 39 = .ok (.getfield 44, 3) := by decide +kernel
theorem dX11_best_42 : decode cX11_best 42 = .ok (.iload_n 2, 1) := by decide +kernel
theorem dX11_best_43 : decode cX11_best 43 = .ok (.invokevirtual 253, 3) := by decide +kernel
theorem dX11_best_46 : decode cX11_best 46 = .ok (.invokevirtual 256, 3) := by decide +kernel
theorem dX11_best_49 : decode cX11_best 49 = .ok (.ireturn, 1) := by decide +kernel
theorem dX11_work_0 : decode cX11_work 0 = .ok (.iload_n 1, 1) := by decide +kernel
theorem dX11_work_1 : decode cX11_work 1 = .ok (.invokestatic 250, 3) := by decide +kernel
theorem dX11_work_4 : decode cX11_work 4 = .ok (.ifCond .eq 14, 3) := by decide +kernel
theorem dX11_work_7 : decode cX11_work 7 = .ok (.aload_n 0, 1) := by decide +kernel
theorem dX11_work_8 : decode cX11_work 8 = .ok (.getfield 53, 3) := by decide +kernel
theorem dX11_work_11 : decode cX11_work 11 = .ok (.iload_n 1, 1) := by decide +kernel
theorem dX11_work_12 : decode cX11_work 12 = .ok (.invokevirtual 259, 3) := by decide +kernel
theorem dX11_work_15 : decode cX11_work 15 = .ok (.goto 5, 3) := by decide +kernel
theorem dX11_work_18 : decode cX11_work 18 = .ok (.bipush (-102), 2) := by decide +kernel
theorem dX11_work_20 : decode cX11_work 20 = .ok (.ireturn, 1) := by decide +kernel
theorem dX11_upkeep_0 : decode cX11_upkeep 0 = .ok (.iload_n 1, 1) := by decide +kernel
theorem dX11_upkeep_1 : decode cX11_upkeep 1 = .ok (.invokestatic 64, 3) := by decide +kernel
theorem dX11_upkeep_4 : decode cX11_upkeep 4 = .ok (.ifCond .ne 6, 3) := by decide +kernel
theorem dX11_upkeep_7 : decode cX11_upkeep 7 = .ok (.bipush (-102), 2) := by decide +kernel
theorem dX11_upkeep_9 : decode cX11_upkeep 9 = .ok (.ireturn, 1) := by decide +kernel
theorem dX11_upkeep_10 : decode cX11_upkeep 10 = .ok (.aload_n 0, 1) := by decide +kernel
theorem dX11_upkeep_11 : decode cX11_upkeep 11 = .ok (.getfield 53, 3) := by decide +kernel
theorem dX11_upkeep_14 : decode cX11_upkeep 14 = .ok (.invokevirtual 262, 3) := by decide +kernel
theorem dX11_upkeep_17 : decode cX11_upkeep 17 = .ok (.istore_n 2, 1) := by decide +kernel
theorem dX11_upkeep_18 : decode cX11_upkeep 18 = .ok (.aload_n 0, 1) := by decide +kernel
theorem dX11_upkeep_19 : decode cX11_upkeep 19 = .ok (.getfield 53, 3) := by decide +kernel
theorem dX11_upkeep_22 : decode cX11_upkeep 22 = .ok (.iload_n 1, 1) := by decide +kernel
theorem dX11_upkeep_23 : decode cX11_upkeep 23 = .ok (.invokevirtual 265, 3) := by decide +kernel
theorem dX11_upkeep_26 : decode cX11_upkeep 26 = .ok (.iload_n 2, 1) := by decide +kernel
theorem dX11_upkeep_27 : decode cX11_upkeep 27 = .ok (.ireturn, 1) := by decide +kernel
theorem dX11_choose_0 : decode cX11_choose 0 = .ok (.iload_n 1, 1) := by decide +kernel
theorem dX11_choose_1 : decode cX11_choose 1 = .ok (.invokestatic 268, 3) := by decide +kernel
theorem dX11_choose_4 : decode cX11_choose 4 = .ok (.ifCond .eq 12, 3) := by decide +kernel
theorem dX11_choose_7 : decode cX11_choose 7 = .ok (.iload_n 2, 1) := by decide +kernel
theorem dX11_choose_8 : decode cX11_choose 8 = .ok (.ifCond .lt 8, 3) := by decide +kernel
theorem dX11_choose_11 : decode cX11_choose 11 = .ok (.iload_n 2, 1) := by decide +kernel
theorem dX11_choose_12 : decode cX11_choose 12 = .ok (.iconst 2, 1) := by decide +kernel
theorem dX11_choose_13 : decode cX11_choose 13 = .ok (.if_icmp .le 6, 3) := by decide +kernel
theorem dX11_choose_16 : decode cX11_choose 16 = .ok (.bipush (-102), 2) := by decide +kernel
theorem dX11_choose_18 : decode cX11_choose 18 = .ok (.ireturn, 1) := by decide +kernel
theorem dX11_choose_19 : decode cX11_choose 19 = .ok (.aload_n 0, 1) := by decide +kernel
theorem dX11_choose_20 : decode cX11_choose 20 = .ok (.getfield 271, 3) := by decide +kernel
theorem dX11_choose_23 : decode cX11_choose 23 = .ok (.bipush 20, 2) := by decide +kernel
theorem dX11_choose_25 : decode cX11_choose 25 = .ok (.if_icmp .lt 6, 3) := by decide +kernel
theorem dX11_choose_28 : decode cX11_choose 28 = .ok (.bipush (-103), 2) := by decide +kernel
theorem dX11_choose_30 : decode cX11_choose 30 = .ok (.ireturn, 1) := by decide +kernel
theorem dX11_choose_31 : decode cX11_choose 31 = .ok (.aload_n 0, 1) := by decide +kernel
theorem dX11_choose_32 : decode cX11_choose 32 = .ok (.dup, 1) := by decide +kernel
theorem dX11_choose_33 : decode cX11_choose 33 = .ok (.getfield 271, 3) := by decide +kernel
theorem dX11_choose_36 : decode cX11_choose 36 = .ok (.iconst 1, 1) := by decide +kernel
theorem dX11_choose_37 : decode cX11_choose 37 = .ok (.iadd, 1) := by decide +kernel
theorem dX11_choose_38 : decode cX11_choose 38 = .ok (.putfield 271, 3) := by decide +kernel
theorem dX11_choose_41 : decode cX11_choose 41 = .ok (.aload_n 0, 1) := by decide +kernel
theorem dX11_choose_42 : decode cX11_choose 42 = .ok (.getfield 53, 3) := by decide +kernel
theorem dX11_choose_45 : decode cX11_choose 45 = .ok (.iload_n 1, 1) := by decide +kernel
theorem dX11_choose_46 : decode cX11_choose 46 = .ok (.invokevirtual 275, 3) := by decide +kernel
theorem dX11_choose_49 : decode cX11_choose 49 = .ok (.istore_n 3, 1) := by decide +kernel
theorem dX11_choose_50 : decode cX11_choose 50 = .ok (.iload_n 2, 1) := by decide +kernel
theorem dX11_choose_51 : decode cX11_choose 51 = .ok (.ifCond .ne 5, 3) := by decide +kernel
theorem dX11_choose_54 : decode cX11_choose 54 = .ok (.iload_n 3, 1) := by decide +kernel
theorem dX11_choose_55 : decode cX11_choose 55 = .ok (.ireturn, 1) := by decide +kernel
theorem dX11_choose_56 : decode cX11_choose 56 = .ok (.iload_n 2, 1) := by decide +kernel
theorem dX11_choose_57 : decode cX11_choose 57 = .ok (.iconst 1, 1) := by decide +kernel
theorem dX11_choose_58 : decode cX11_choose 58 = .ok (.if_icmp .ne 14, 3) := by decide +kernel
theorem dX11_choose_61 : decode cX11_choose 61 = .ok (.aload_n 0, 1) := by decide +kernel
theorem dX11_choose_62 : decode cX11_choose 62 = .ok (.getfield 53, 3) := by decide +kernel
theorem dX11_choose_65 : decode cX11_choose 65 = .ok (.iload_n 3, 1) := by decide +kernel
theorem dX11_choose_66 : decode cX11_choose 66 = .ok (.invokevirtual 278, 3) := by decide +kernel
theorem dX11_choose_69 : decode cX11_choose 69 = .ok (.goto 11, 3) := by decide +kernel
theorem dX11_choose_72 : decode cX11_choose 72 = .ok (.aload_n 0, 1) := by decide +kernel
theorem dX11_choose_73 : decode cX11_choose 73 = .ok (.getfield 40, 3) := by decide +kernel
theorem dX11_choose_76 : decode cX11_choose 76 = .ok (.iload_n 3, 1) := by decide +kernel
theorem dX11_choose_77 : decode cX11_choose 77 = .ok (.invokevirtual 281, 3) := by decide +kernel
theorem dX11_choose_80 : decode cX11_choose 80 = .ok (.ireturn, 1) := by decide +kernel
theorem dX11_steps_0 : decode cX11_steps 0 = .ok (.iload_n 2, 1) := by decide +kernel
theorem dX11_steps_1 : decode cX11_steps 1 = .ok (.bipush 10, 2) := by decide +kernel
theorem dX11_steps_3 : decode cX11_steps 3 = .ok (.if_icmp .lt 13, 3) := by decide +kernel
theorem dX11_steps_6 : decode cX11_steps 6 = .ok (.iload_n 2, 1) := by decide +kernel
theorem dX11_steps_7 : decode cX11_steps 7 = .ok (.bipush 18, 2) := by decide +kernel
theorem dX11_steps_9 : decode cX11_steps 9 = .ok (.if_icmp .ge 7, 3) := by decide +kernel
theorem dX11_steps_12 : decode cX11_steps 12 = .ok (.iconst 1, 1) := by decide +kernel
theorem dX11_steps_13 : decode cX11_steps 13 = .ok (.goto 4, 3) := by decide +kernel
theorem dX11_steps_16 : decode cX11_steps 16 = .ok (.iconst 0, 1) := by decide +kernel
theorem dX11_steps_17 : decode cX11_steps 17 = .ok (.istore_n 3, 1) := by decide +kernel
theorem dX11_steps_18 : decode cX11_steps 18 = .ok (.iload_n 1, 1) := by decide +kernel
theorem dX11_steps_19 : decode cX11_steps 19 = .ok (.invokestatic 268, 3) := by decide +kernel
theorem dX11_steps_22 : decode cX11_steps 22 = .ok (.ifCond .eq 16, 3) := by decide +kernel
theorem dX11_steps_25 : decode cX11_steps 25 = .ok (.iload_n 3, 1) := by decide +kernel
theorem dX11_steps_26 : decode cX11_steps 26 = .ok (.ifCond .ne 15, 3) := by decide +kernel
theorem dX11_steps_29 : decode cX11_steps 29 = .ok (.iload_n 2, 1) := by decide +kernel
theorem dX11_steps_30 : decode cX11_steps 30 = .ok (.ifCond .lt 8, 3) := by decide +kernel
theorem dX11_steps_33 : decode cX11_steps 33 = .ok (.iload_n 2, 1) := by decide +kernel
theorem dX11_steps_34 : decode cX11_steps 34 = .ok (.iconst 2, 1) := by decide +kernel
theorem dX11_steps_35 : decode cX11_steps 35 = .ok (.if_icmp .le 6, 3) := by decide +kernel
theorem dX11_steps_38 : decode cX11_steps 38 = .ok (.bipush (-102), 2) := by decide +kernel
theorem dX11_steps_40 : decode cX11_steps 40 = .ok (.ireturn, 1) := by decide +kernel
theorem dX11_steps_41 : decode cX11_steps 41 = .ok (.aload_n 0, 1) := by decide +kernel
theorem dX11_steps_42 : decode cX11_steps 42 = .ok (.getfield 284, 3) := by decide +kernel
theorem dX11_steps_45 : decode cX11_steps 45 = .ok (.bipush 20, 2) := by decide +kernel
theorem dX11_steps_47 : decode cX11_steps 47 = .ok (.if_icmp .lt 6, 3) := by decide +kernel
theorem dX11_steps_50 : decode cX11_steps 50 = .ok (.bipush (-103), 2) := by decide +kernel
theorem dX11_steps_52 : decode cX11_steps 52 = .ok (.ireturn, 1) := by decide +kernel
theorem dX11_steps_53 : decode cX11_steps 53 = .ok (.aload_n 0, 1) := by decide +kernel
theorem dX11_steps_54 : decode cX11_steps 54 = .ok (.dup, 1) := by decide +kernel
theorem dX11_steps_55 : decode cX11_steps 55 = .ok (.getfield 284, 3) := by decide +kernel
theorem dX11_steps_58 : decode cX11_steps 58 = .ok (.iconst 1, 1) := by decide +kernel
theorem dX11_steps_59 : decode cX11_steps 59 = .ok (.iadd, 1) := by decide +kernel
theorem dX11_steps_60 : decode cX11_steps 60 = .ok (.putfield 284, 3) := by decide +kernel
theorem dX11_steps_63 : decode cX11_steps 63 = .ok (.aload_n 0, 1) := by decide +kernel
theorem dX11_steps_64 : decode cX11_steps 64 = .ok (.getfield 53, 3) := by decide +kernel
theorem dX11_steps_67 : decode cX11_steps 67 = .ok (.iload_n 1, 1) := by decide +kernel
theorem dX11_steps_68 : decode cX11_steps 68 = .ok (.invokevirtual 287, 3) := by decide +kernel
theorem dX11_steps_71 : decode cX11_steps 71 = .ok (.istore 4, 2) := by decide +kernel
theorem dX11_steps_73 : decode cX11_steps 73 = .ok (.iload_n 3, 1) := by decide +kernel
theorem dX11_steps_74 : decode cX11_steps 74 = .ok (.ifCond .eq 15, 3) := by decide +kernel
theorem dX11_steps_77 : decode cX11_steps 77 = .ok (.aload_n 0, 1) := by decide +kernel
theorem dX11_steps_78 : decode cX11_steps 78 = .ok (.getfield 53, 3) := by decide +kernel
theorem dX11_steps_81 : decode cX11_steps 81 = .ok (.iload_n 2, 1) := by decide +kernel
theorem dX11_steps_82 : decode cX11_steps 82 = .ok (.bipush 10, 2) := by decide +kernel
theorem dX11_steps_84 : decode cX11_steps 84 = .ok (.isub, 1) := by decide +kernel
theorem dX11_steps_85 : decode cX11_steps 85 = .ok (.invokevirtual 290, 3) := by decide +kernel
theorem dX11_steps_88 : decode cX11_steps 88 = .ok (.ireturn, 1) := by decide +kernel
theorem dX11_steps_89 : decode cX11_steps 89 = .ok (.iload_n 2, 1) := by decide +kernel
theorem dX11_steps_90 : decode cX11_steps 90 = .ok (.ifCond .ne 6, 3) := by decide +kernel
theorem dX11_steps_93 : decode cX11_steps 93 = .ok (.iload 4, 2) := by decide +kernel
theorem dX11_steps_95 : decode cX11_steps 95 = .ok (.ireturn, 1) := by decide +kernel
theorem dX11_steps_96 : decode cX11_steps 96 = .ok (.iload_n 2, 1) := by decide +kernel
theorem dX11_steps_97 : decode cX11_steps 97 = .ok (.iconst 1, 1) := by decide +kernel
theorem dX11_steps_98 : decode cX11_steps 98 = .ok (.if_icmp .ne 15, 3) := by decide +kernel
theorem dX11_steps_101 : decode cX11_steps 101 = .ok (.aload_n 0, 1) := by decide +kernel
theorem dX11_steps_102 : decode cX11_steps 102 = .ok (.getfield 53, 3) := by decide +kernel
theorem dX11_steps_105 : decode cX11_steps 105 = .ok (.iload 4, 2) := by decide +kernel
theorem dX11_steps_107 : decode cX11_steps 107 = .ok (.invokevirtual 278, 3) := by decide +kernel
theorem dX11_steps_110 : decode cX11_steps 110 = .ok (.goto 8, 3) := by decide +kernel
theorem dX11_steps_113 : decode cX11_steps 113 = .ok (.iload 4, 2) := by decide +kernel
theorem dX11_steps_115 : decode cX11_steps 115 = .ok (.invokestatic 293, 3) := by decide +kernel
theorem dX11_steps_118 : decode cX11_steps 118 = .ok (.ireturn, 1) := by decide +kernel
theorem dX11_worth_0 : decode cX11_worth 0 = .ok (.aload_n 0, 1) := by decide +kernel
theorem dX11_worth_1 : decode cX11_worth 1 = .ok (.getfield 40, 3) := by decide +kernel
theorem dX11_worth_4 : decode cX11_worth 4 = .ok (.iload_n 2, 1) := by decide +kernel
theorem dX11_worth_5 : decode cX11_worth 5 = .ok (.invokevirtual 137, 3) := by decide +kernel
theorem dX11_worth_8 : decode cX11_worth 8 = .ok (.ifnonnull 6, 3) := by decide +kernel
theorem dX11_worth_11 : decode cX11_worth 11 = .ok (.bipush (-101), 2) := by decide +kernel
theorem dX11_worth_13 : decode cX11_worth 13 = .ok (.ireturn, 1) := by decide +kernel
theorem dX11_worth_14 : decode cX11_worth 14 = .ok (.iload_n 1, 1) := by decide +kernel
theorem dX11_worth_15 : decode cX11_worth 15 = .ok (.invokestatic 250, 3) := by decide +kernel
theorem dX11_worth_18 : decode cX11_worth 18 = .ok (.ifCond .ne 6, 3) := by decide +kernel
theorem dX11_worth_21 : decode cX11_worth 21 = .ok (.bipush (-102), 2) := by decide +kernel
theorem dX11_worth_23 : decode cX11_worth 23 = .ok (.ireturn, 1) := by decide +kernel
theorem dX11_worth_24 : decode cX11_worth 24 = .ok (.iload_n 1, 1) := by decide +kernel
theorem dX11_worth_25 : decode cX11_worth 25 = .ok (.iload_n 2, 1) := by decide +kernel
theorem dX11_worth_26 : decode cX11_worth 26 = .ok (.invokestatic 297, 3) := by decide +kernel
theorem dX11_worth_29 : decode cX11_worth 29 = .ok (.ifCond .ne 6, 3) := by decide +kernel
theorem dX11_worth_32 : decode cX11_worth 32 = .ok (.bipush (-101), 2) := by decide +kernel
theorem dX11_worth_34 : decode cX11_worth 34 = .ok (.ireturn, 1) := by decide +kernel
theorem dX11_worth_35 : decode cX11_worth 35 = .ok (.aload_n 0, 1) := by decide +kernel
theorem dX11_worth_36 : decode cX11_worth 36 = .ok (.getfield 53, 3) := by decide +kernel
theorem dX11_worth_39 : decode cX11_worth 39 = .ok (.iload_n 1, 1) := by decide +kernel
theorem dX11_worth_40 : decode cX11_worth 40 = .ok (.iload_n 2, 1) := by decide +kernel
theorem dX11_worth_41 : decode cX11_worth 41 = .ok (.invokestatic 301, 3) := by decide +kernel
theorem dX11_worth_44 : decode cX11_worth 44 = .ok (.invokevirtual 259, 3) := by decide +kernel
theorem dX11_worth_47 : decode cX11_worth 47 = .ok (.aload_n 0, 1) := by decide +kernel
theorem dX11_worth_48 : decode cX11_worth 48 = .ok (.getfield 53, 3) := by decide +kernel
theorem dX11_worth_51 : decode cX11_worth 51 = .ok (.iload_n 1, 1) := by decide +kernel
theorem dX11_worth_52 : decode cX11_worth 52 = .ok (.invokevirtual 259, 3) := by decide +kernel
theorem dX11_worth_55 : decode cX11_worth 55 = .ok (.isub, 1) := by decide +kernel
theorem dX11_worth_56 : decode cX11_worth 56 = .ok (.ireturn, 1) := by decide +kernel
theorem dX11_picture_0 : decode cX11_picture 0 = .ok (.iload_n 1, 1) := by decide +kernel
theorem dX11_picture_1 : decode cX11_picture 1 = .ok (.invokestatic 83, 3) := by decide +kernel
theorem dX11_picture_4 : decode cX11_picture 4 = .ok (.ifCond .eq 14, 3) := by decide +kernel
theorem dX11_picture_7 : decode cX11_picture 7 = .ok (.aload_n 0, 1) := by decide +kernel
theorem dX11_picture_8 : decode cX11_picture 8 = .ok (.getfield 60, 3) := by decide +kernel
theorem dX11_picture_11 : decode cX11_picture 11 = .ok (.iload_n 1, 1) := by decide +kernel
theorem dX11_picture_12 : decode cX11_picture 12 = .ok (.invokevirtual 304, 3) := by decide +kernel
theorem dX11_picture_15 : decode cX11_picture 15 = .ok (.goto 5, 3) := by decide +kernel
theorem dX11_picture_18 : decode cX11_picture 18 = .ok (.bipush (-101), 2) := by decide +kernel
theorem dX11_picture_20 : decode cX11_picture 20 = .ok (.ireturn, 1) := by decide +kernel
theorem dX11_part_0 : decode cX11_part 0 = .ok (.aload_n 0, 1) := by decide +kernel
theorem dX11_part_1 : decode cX11_part 1 = .ok (.getfield 60, 3) := by decide +kernel
theorem dX11_part_4 : decode cX11_part 4 = .ok (.iload_n 1, 1) := by decide +kernel
theorem dX11_part_5 : decode cX11_part 5 = .ok (.invokevirtual 307, 3) := by decide +kernel
theorem dX11_part_8 : decode cX11_part 8 = .ok (.astore 4, 2) := by decide +kernel
theorem dX11_part_10 : decode cX11_part 10 = .ok (.aload 4, 2) := by decide +kernel
theorem dX11_part_12 : decode cX11_part 12 = .ok (.ifnonnull 6, 3) := by decide +kernel
theorem dX11_part_15 : decode cX11_part 15 = .ok (.bipush (-101), 2) := by decide +kernel
theorem dX11_part_17 : decode cX11_part 17 = .ok (.ireturn, 1) := by decide +kernel
theorem dX11_part_18 : decode cX11_part 18 = .ok (.iload_n 2, 1) := by decide +kernel
theorem dX11_part_19 : decode cX11_part 19 = .ok (.ifCond .lt 17, 3) := by decide +kernel
theorem dX11_part_22 : decode cX11_part 22 = .ok (.iload_n 2, 1) := by decide +kernel
theorem dX11_part_23 : decode cX11_part 23 = .ok (.iconst 4, 1) := by decide +kernel
theorem dX11_part_24 : decode cX11_part 24 = .ok (.if_icmp .ge 12, 3) := by decide +kernel
theorem dX11_part_27 : decode cX11_part 27 = .ok (.iload_n 3, 1) := by decide +kernel
theorem dX11_part_28 : decode cX11_part 28 = .ok (.ifCond .lt 8, 3) := by decide +kernel
theorem dX11_part_31 : decode cX11_part 31 = .ok (.iload_n 3, 1) := by decide +kernel
theorem dX11_part_32 : decode cX11_part 32 = .ok (.iconst 2, 1) := by decide +kernel
theorem dX11_part_33 : decode cX11_part 33 = .ok (.if_icmp .le 6, 3) := by decide +kernel
theorem dX11_part_36 : decode cX11_part 36 = .ok (.bipush (-102), 2) := by decide +kernel
theorem dX11_part_38 : decode cX11_part 38 = .ok (.ireturn, 1) := by decide +kernel
theorem dX11_part_39 : decode cX11_part 39 = .ok (.aload 4, 2) := by decide +kernel
theorem dX11_part_41 : decode cX11_part 41 = .ok (.iload_n 2, 1) := by decide +kernel
theorem dX11_part_42 : decode cX11_part 42 = .ok (.invokevirtual 311, 3) := by decide +kernel
theorem dX11_part_45 : decode cX11_part 45 = .ok (.ifCond .ne 5, 3) := by decide +kernel
theorem dX11_part_48 : decode cX11_part 48 = .ok (.iconst (-1), 1) := by decide +kernel
theorem dX11_part_49 : decode cX11_part 49 = .ok (.ireturn, 1) := by decide +kernel
theorem dX11_part_50 : decode cX11_part 50 = .ok (.iload_n 3, 1) := by decide +kernel
theorem dX11_part_51 : decode cX11_part 51 = .ok (.ifCond .ne 10, 3) := by decide +kernel
theorem dX11_part_54 : decode cX11_part 54 = .ok (.aload 4, 2) := by decide +kernel
theorem dX11_part_56 : decode cX11_part 56 = .ok (.iload_n 2, 1) := by decide +kernel
theorem dX11_part_57 : decode cX11_part 57 = .ok (.invokevirtual 311, 3) := by decide +kernel
theorem dX11_part_60 : decode cX11_part 60 = .ok (.ireturn, 1) := by decide +kernel
theorem dX11_part_61 : decode cX11_part 61 = .ok (.iload_n 3, 1) := by decide +kernel
theorem dX11_part_62 : decode cX11_part 62 = .ok (.iconst 1, 1) := by decide +kernel
theorem dX11_part_63 : decode cX11_part 63 = .ok (.if_icmp .ne 12, 3) := by decide +kernel
theorem dX11_part_66 : decode cX11_part 66 = .ok (.aload 4, 2) := by decide +kernel
theorem dX11_part_68 : decode cX11_part 68 = .ok (.iload_n 2, 1) := by decide +kernel
theorem dX11_part_69 : decode cX11_part 69 = .ok (.invokevirtual 316, 3) := by decide +kernel
theorem dX11_part_72 : decode cX11_part 72 = .ok (.goto 9, 3) := by decide +kernel
theorem dX11_part_75 : decode cX11_part 75 = .ok (.aload 4, 2) := by decide +kernel
theorem dX11_part_77 : decode cX11_part 77 = .ok (.iload_n 2, 1) := by decide +kernel
theorem dX11_part_78 : decode cX11_part 78 = .ok (.invokevirtual 319, 3) := by decide +kernel
theorem dX11_part_81 : decode cX11_part 81 = .ok (.ireturn, 1) := by decide +kernel
theorem dX11_foretold_0 : decode cX11_foretold 0 = .ok (.aload_n 0, 1) := by decide +kernel
theorem dX11_foretold_1 : decode cX11_foretold 1 = .ok (.getfield 60, 3) := by decide +kernel
theorem dX11_foretold_4 : decode cX11_foretold 4 = .ok (.iload_n 1, 1) := by decide +kernel
theorem dX11_foretold_5 : decode cX11_foretold 5 = .ok (.invokevirtual 307, 3) := by decide +kernel
theorem dX11_foretold_8 : decode cX11_foretold 8 = .ok (.astore 5, 2) := by decide +kernel
theorem dX11_foretold_10 : decode cX11_foretold 10 = .ok (.aload 5, 2) := by decide +kernel
theorem dX11_foretold_12 : decode cX11_foretold 12 = .ok (.ifnonnull 6, 3) := by decide +kernel
theorem dX11_foretold_15 : decode cX11_foretold 15 = .ok (.bipush (-101), 2) := by decide +kernel
theorem dX11_foretold_17 : decode cX11_foretold 17 = .ok (.ireturn, 1) := by decide +kernel
theorem dX11_foretold_18 : decode cX11_foretold 18 = .ok (.iload 4, 2) := by decide +kernel
theorem dX11_foretold_20 : decode cX11_foretold 20 = .ok (.ifCond .lt 28, 3) := by decide +kernel
theorem dX11_foretold_23 : decode cX11_foretold 23 = .ok (.iload 4, 2) := by decide +kernel
theorem dX11_foretold_25 : decode cX11_foretold 25 = .ok (.iconst 2, 1) := by decide +kernel
theorem dX11_foretold_26 : decode cX11_foretold 26 = .ok (.if_icmp .gt 22, 3) := by decide +kernel
theorem dX11_foretold_29 : decode cX11_foretold 29 = .ok (.iload_n 2, 1) := by decide +kernel
theorem dX11_foretold_30 : decode cX11_foretold 30 = .ok (.invokestatic 64, 3) := by decide +kernel
theorem dX11_foretold_33 : decode cX11_foretold 33 = .ok (.ifCond .eq 15, 3) := by decide +kernel
theorem dX11_foretold_36 : decode cX11_foretold 36 = .ok (.iload_n 3, 1) := by decide +kernel
theorem dX11_foretold_37 : decode cX11_foretold 37 = .ok (.invokestatic 64, 3) := by decide +kernel
theorem dX11_foretold_40 : decode cX11_foretold 40 = .ok (.ifCond .eq 8, 3) := by decide +kernel
theorem dX11_foretold_43 : decode cX11_foretold 43 = .ok (.iload_n 2, 1) := by decide +kernel
theorem dX11_foretold_44 : decode cX11_foretold 44 = .ok (.iload_n 3, 1) := by decide +kernel
theorem dX11_foretold_45 : decode cX11_foretold 45 = .ok (.if_icmp .le 6, 3) := by decide +kernel
theorem dX11_foretold_48 : decode cX11_foretold 48 = .ok (.bipush (-102), 2) := by decide +kernel
theorem dX11_foretold_50 : decode cX11_foretold 50 = .ok (.ireturn, 1) := by decide +kernel
theorem dX11_foretold_51 : decode cX11_foretold 51 = .ok (.aload 5, 2) := by decide +kernel
theorem dX11_foretold_53 : decode cX11_foretold 53 = .ok (.invokevirtual 322, 3) := by decide +kernel
theorem dX11_foretold_56 : decode cX11_foretold 56 = .ok (.ifCond .ne 5, 3) := by decide +kernel
theorem dX11_foretold_59 : decode cX11_foretold 59 = .ok (.iconst (-1), 1) := by decide +kernel
theorem dX11_foretold_60 : decode cX11_foretold 60 = .ok (.ireturn, 1) := by decide +kernel
theorem dX11_foretold_61 : decode cX11_foretold 61 = .ok (.iload 4, 2) := by decide +kernel
theorem dX11_foretold_63 : decode cX11_foretold 63 = .ok (.ifCond .ne 11, 3) := by decide +kernel
theorem dX11_foretold_66 : decode cX11_foretold 66 = .ok (.aload 5, 2) := by decide +kernel
theorem dX11_foretold_68 : decode cX11_foretold 68 = .ok (.iload_n 2, 1) := by decide +kernel
theorem dX11_foretold_69 : decode cX11_foretold 69 = .ok (.iload_n 3, 1) := by decide +kernel
theorem dX11_foretold_70 : decode cX11_foretold 70 = .ok (.invokevirtual 325, 3) := by decide +kernel
theorem dX11_foretold_73 : decode cX11_foretold 73 = .ok (.ireturn, 1) := by decide +kernel
theorem dX11_foretold_74 : decode cX11_foretold 74 = .ok (.iload 4, 2) := by decide +kernel
theorem dX11_foretold_76 : decode cX11_foretold 76 = .ok (.iconst 1, 1) := by decide +kernel
theorem dX11_foretold_77 : decode cX11_foretold 77 = .ok (.if_icmp .ne 13, 3) := by decide +kernel
theorem dX11_foretold_80 : decode cX11_foretold 80 = .ok (.aload 5, 2) := by decide +kernel
theorem dX11_foretold_82 : decode cX11_foretold 82 = .ok (.iload_n 2, 1) := by decide +kernel
theorem dX11_foretold_83 : decode cX11_foretold 83 = .ok (.iload_n 3, 1) := by decide +kernel
theorem dX11_foretold_84 : decode cX11_foretold 84 = .ok (.invokevirtual 328, 3) := by decide +kernel
theorem dX11_foretold_87 : decode cX11_foretold 87 = .ok (.goto 10, 3) := by decide +kernel
theorem dX11_foretold_90 : decode cX11_foretold 90 = .ok (.aload 5, 2) := by decide +kernel
theorem dX11_foretold_92 : decode cX11_foretold 92 = .ok (.iload_n 2, 1) := by decide +kernel
theorem dX11_foretold_93 : decode cX11_foretold 93 = .ok (.iload_n 3, 1) := by decide +kernel
theorem dX11_foretold_94 : decode cX11_foretold 94 = .ok (.invokevirtual 331, 3) := by decide +kernel
theorem dX11_foretold_97 : decode cX11_foretold 97 = .ok (.ireturn, 1) := by decide +kernel
theorem dX11_likely_0 : decode cX11_likely 0 = .ok (.aload_n 0, 1) := by decide +kernel
theorem dX11_likely_1 : decode cX11_likely 1 = .ok (.getfield 53, 3) := by decide +kernel
theorem dX11_likely_4 : decode cX11_likely 4 = .ok (.iload_n 1, 1) := by decide +kernel
theorem dX11_likely_5 : decode cX11_likely 5 = .ok (.invokevirtual 203, 3) := by decide +kernel
theorem dX11_likely_8 : decode cX11_likely 8 = .ok (.astore_n 2, 1) := by decide +kernel
theorem dX11_likely_9 : decode cX11_likely 9 = .ok (.aload_n 2, 1) := by decide +kernel
theorem dX11_likely_10 : decode cX11_likely 10 = .ok (.ifnonnull 8, 3) := by decide +kernel
theorem dX11_likely_13 : decode cX11_likely 13 = .ok (.bipush (-101), 2) := by decide +kernel
theorem dX11_likely_15 : decode cX11_likely 15 = .ok (.goto 13, 3) := by decide +kernel
theorem dX11_likely_18 : decode cX11_likely 18 = .ok (.aload_n 0, 1) := by decide +kernel
theorem dX11_likely_19 : decode cX11_likely 19 = .ok (.getfield 60, 3) := by decide +kernel
theorem dX11_likely_22 : decode cX11_likely 22 = .ok (.aload_n 2, 1) := by decide +kernel
theorem dX11_likely_23 : decode cX11_likely 23 = .ok (.bipush 15, 2) := by decide +kernel
theorem dX11_likely_25 : decode cX11_likely 25 = .ok (.invokevirtual 334, 3) := by decide +kernel
theorem dX11_likely_28 : decode cX11_likely 28 = .ok (.ireturn, 1) := by decide +kernel
theorem dX11_guess_0 : decode cX11_guess 0 = .ok (.aload_n 0, 1) := by decide +kernel
theorem dX11_guess_1 : decode cX11_guess 1 = .ok (.getfield 53, 3) := by decide +kernel
theorem dX11_guess_4 : decode cX11_guess 4 = .ok (.iload_n 1, 1) := by decide +kernel
theorem dX11_guess_5 : decode cX11_guess 5 = .ok (.invokevirtual 203, 3) := by decide +kernel
theorem dX11_guess_8 : decode cX11_guess 8 = .ok (.astore_n 3, 1) := by decide +kernel
theorem dX11_guess_9 : decode cX11_guess 9 = .ok (.aload_n 3, 1) := by decide +kernel
theorem dX11_guess_10 : decode cX11_guess 10 = .ok (.ifnonnull 6, 3) := by decide +kernel
theorem dX11_guess_13 : decode cX11_guess 13 = .ok (.bipush (-101), 2) := by decide +kernel
theorem dX11_guess_15 : decode cX11_guess 15 = .ok (.ireturn, 1) := by decide +kernel
theorem dX11_guess_16 : decode cX11_guess 16 = .ok (.iload_n 2, 1) := by decide +kernel
theorem dX11_guess_17 : decode cX11_guess 17 = .ok (.ifCond .ne 12, 3) := by decide +kernel
theorem dX11_guess_20 : decode cX11_guess 20 = .ok (.aload_n 0, 1) := by decide +kernel
theorem dX11_guess_21 : decode cX11_guess 21 = .ok (.getfield 60, 3) := by decide +kernel
theorem dX11_guess_24 : decode cX11_guess 24 = .ok (.aload_n 3, 1) := by decide +kernel
theorem dX11_guess_25 : decode cX11_guess 25 = .ok (.invokevirtual 338, 3) := by decide +kernel
theorem dX11_guess_28 : decode cX11_guess 28 = .ok (.ireturn, 1) := by decide +kernel
theorem dX11_guess_29 : decode cX11_guess 29 = .ok (.iload_n 2, 1) := by decide +kernel
theorem dX11_guess_30 : decode cX11_guess 30 = .ok (.ifCond .le 16, 3) := by decide +kernel
theorem dX11_guess_33 : decode cX11_guess 33 = .ok (.aload_n 0, 1) := by decide +kernel
theorem dX11_guess_34 : decode cX11_guess 34 = .ok (.getfield 40, 3) := by decide +kernel
theorem dX11_guess_37 : decode cX11_guess 37 = .ok (.iload_n 2, 1) := by decide +kernel
theorem dX11_guess_38 : decode cX11_guess 38 = .ok (.iconst 1, 1) := by decide +kernel
theorem dX11_guess_39 : decode cX11_guess 39 = .ok (.isub, 1) := by decide +kernel
theorem dX11_guess_40 : decode cX11_guess 40 = .ok (.invokevirtual 137, 3) := by decide +kernel
theorem dX11_guess_43 : decode cX11_guess 43 = .ok (.goto 4, 3) := by decide +kernel
theorem dX11_guess_46 : decode cX11_guess 46 = .ok (.aconst_null, 1) := by decide +kernel
theorem dX11_guess_47 : decode cX11_guess 47 = .ok (.astore 4, 2) := by decide +kernel
theorem dX11_guess_49 : decode cX11_guess 49 = .ok (.aload 4, 2) := by decide +kernel
theorem dX11_guess_51 : decode cX11_guess 51 = .ok (.ifnonnull 8, 3) := by decide +kernel
theorem dX11_guess_54 : decode cX11_guess 54 = .ok (.bipush (-101), 2) := by decide +kernel
theorem dX11_guess_56 : decode cX11_guess 56 = .ok (.goto 13, 3) := by decide +kernel
theorem dX11_guess_59 : decode cX11_guess 59 = .ok (.aload_n 0, 1) := by decide +kernel
theorem dX11_guess_60 : decode cX11_guess 60 = .ok (.getfield 60, 3) := by decide +kernel
theorem dX11_guess_63 : decode cX11_guess 63 = .ok (.aload_n 3, 1) := by decide +kernel
theorem dX11_guess_64 : decode cX11_guess 64 = .ok (.aload 4, 2) := by decide +kernel
theorem dX11_guess_66 : decode cX11_guess 66 = .ok (.invokevirtual 341, 3) := by decide +kernel
theorem dX11_guess_69 : decode cX11_guess 69 = .ok (.ireturn, 1) := by decide +kernel
theorem dX11_chosen_0 : decode cX11_chosen 0 = .ok (.aload_n 0, 1) := by decide +kernel
theorem dX11_chosen_1 : decode cX11_chosen 1 = .ok (.getfield 53, 3) := by decide +kernel
theorem dX11_chosen_4 : decode cX11_chosen 4 = .ok (.iload_n 1, 1) := by decide +kernel
theorem dX11_chosen_5 : decode cX11_chosen 5 = .ok (.invokevirtual 203, 3) := by decide +kernel
theorem dX11_chosen_8 : decode cX11_chosen 8 = .ok (.astore_n 2, 1) := by decide +kernel
theorem dX11_chosen_9 : decode cX11_chosen 9 = .ok (.aload_n 2, 1) := by decide +kernel
theorem dX11_chosen_10 : decode cX11_chosen 10 = .ok (.ifnonnull 8, 3) := by decide +kernel
theorem dX11_chosen_13 : decode cX11_chosen 13 = .ok (.bipush (-101), 2) := by decide +kernel
theorem dX11_chosen_15 : decode cX11_chosen 15 = .ok (.goto 11, 3) := by decide +kernel
theorem dX11_chosen_18 : decode cX11_chosen 18 = .ok (.aload_n 0, 1) := by decide +kernel
theorem dX11_chosen_19 : decode cX11_chosen 19 = .ok (.getfield 60, 3) := by decide +kernel
theorem dX11_chosen_22 : decode cX11_chosen 22 = .ok (.aload_n 2, 1) := by decide +kernel
theorem dX11_chosen_23 : decode cX11_chosen 23 = .ok (.invokevirtual 345, 3) := by decide +kernel
theorem dX11_chosen_26 : decode cX11_chosen 26 = .ok (.ireturn, 1) := by decide +kernel
theorem dX11_regret_0 : decode cX11_regret 0 = .ok (.aload_n 0, 1) := by decide +kernel
theorem dX11_regret_1 : decode cX11_regret 1 = .ok (.getfield 53, 3) := by decide +kernel
theorem dX11_regret_4 : decode cX11_regret 4 = .ok (.iload_n 1, 1) := by decide +kernel
theorem dX11_regret_5 : decode cX11_regret 5 = .ok (.invokevirtual 203, 3) := by decide +kernel
theorem dX11_regret_8 : decode cX11_regret 8 = .ok (.astore_n 2, 1) := by decide +kernel
theorem dX11_regret_9 : decode cX11_regret 9 = .ok (.aload_n 2, 1) := by decide +kernel
theorem dX11_regret_10 : decode cX11_regret 10 = .ok (.ifnonnull 6, 3) := by decide +kernel
theorem dX11_regret_13 : decode cX11_regret 13 = .ok (.bipush (-101), 2) := by decide +kernel
theorem dX11_regret_15 : decode cX11_regret 15 = .ok (.ireturn, 1) := by decide +kernel
theorem dX11_regret_16 : decode cX11_regret 16 = .ok (.aload_n 0, 1) := by decide +kernel
theorem dX11_regret_17 : decode cX11_regret 17 = .ok (.getfield 44, 3) := by decide +kernel
theorem dX11_regret_20 : decode cX11_regret 20 = .ok (.aload_n 2, 1) := by decide +kernel
theorem dX11_regret_21 : decode cX11_regret 21 = .ok (.invokevirtual 237, 3) := by decide +kernel
theorem dX11_regret_24 : decode cX11_regret 24 = .ok (.aload_n 0, 1) := by decide +kernel
theorem dX11_regret_25 : decode cX11_regret 25 = .ok (.getfield 44, 3) := by decide +kernel
theorem dX11_regret_28 : decode cX11_regret 28 = .ok (.aload_n 0, 1) := by decide +kernel
theorem dX11_regret_29 : decode cX11_regret 29 = .ok (.getfield 60, 3) := by decide +kernel
theorem dX11_regret_32 : decode cX11_regret 32 = .ok (.aload_n 2, 1) := by decide +kernel
theorem dX11_regret_33 : decode cX11_regret 33 = .ok (.invokevirtual 345, 3) := by decide +kernel
theorem dX11_regret_36 : decode cX11_regret 36 = .ok (.invokevirtual 241, 3) := by decide +kernel
theorem dX11_regret_39 : decode cX11_regret 39 = .ok (.istore_n 3, 1) := by decide +kernel
theorem dX11_regret_40 : decode cX11_regret 40 = .ok (.aload_n 0, 1) := by decide +kernel
theorem dX11_regret_41 : decode cX11_regret 41 = .ok (.getfield 44, 3) := by decide +kernel
theorem dX11_regret_44 : decode cX11_regret 44 = .ok (.iload_n 3, 1) := by decide +kernel
theorem dX11_regret_45 : decode cX11_regret 45 = .ok (.invokevirtual 244, 3) := by decide +kernel
theorem dX11_regret_48 : decode cX11_regret 48 = .ok (.aload_n 0, 1) := by decide +kernel
theorem dX11_regret_49 : decode cX11_regret 49 = .ok (.getfield 44, 3) := by decide +kernel
theorem dX11_regret_52 : decode cX11_regret 52 = .ok (.aload_n 0, 1) := by decide +kernel
theorem dX11_regret_53 : decode cX11_regret 53 = .ok (.getfield 44, 3) := by decide +kernel
theorem dX11_regret_56 : decode cX11_regret 56 = .ok (.sipush 255, 3) := by decide +kernel
theorem dX11_regret_59 : decode cX11_regret 59 = .ok (.invokevirtual 253, 3) := by decide +kernel
theorem dX11_regret_62 : decode cX11_regret 62 = .ok (.invokevirtual 244, 3) := by decide +kernel
theorem dX11_regret_65 : decode cX11_regret 65 = .ok (.isub, 1) := by decide +kernel
theorem dX11_regret_66 : decode cX11_regret 66 = .ok (.ireturn, 1) := by decide +kernel
theorem dX11_mark_0 : decode cX11_mark 0 = .ok (.aload_n 0, 1) := by decide +kernel
theorem dX11_mark_1 : decode cX11_mark 1 = .ok (.getfield 19, 3) := by decide +kernel
theorem dX11_mark_4 : decode cX11_mark 4 = .ok (.aload_n 0, 1) := by decide +kernel
theorem dX11_mark_5 : decode cX11_mark 5 = .ok (.getfield 36, 3) := by decide +kernel
theorem dX11_mark_8 : decode cX11_mark 8 = .ok (.invokevirtual 348, 3) := by decide +kernel
theorem dX11_mark_11 : decode cX11_mark 11 = .ok (.ireturn, 1) := by decide +kernel
theorem dX11_back_0 : decode cX11_back 0 = .ok (.aload_n 0, 1) := by decide +kernel
theorem dX11_back_1 : decode cX11_back 1 = .ok (.getfield 19, 3) := by decide +kernel
theorem dX11_back_4 : decode cX11_back 4 = .ok (.iload_n 1, 1) := by decide +kernel
theorem dX11_back_5 : decode cX11_back 5 = .ok (.invokevirtual 352, 3) := by decide +kernel
theorem dX11_back_8 : decode cX11_back 8 = .ok (.astore_n 2, 1) := by decide +kernel
theorem dX11_back_9 : decode cX11_back 9 = .ok (.aload_n 2, 1) := by decide +kernel
theorem dX11_back_10 : decode cX11_back 10 = .ok (.ifnonnull 6, 3) := by decide +kernel
theorem dX11_back_13 : decode cX11_back 13 = .ok (.bipush (-101), 2) := by decide +kernel
theorem dX11_back_15 : decode cX11_back 15 = .ok (.ireturn, 1) := by decide +kernel
theorem dX11_back_16 : decode cX11_back 16 = .ok (.aload_n 0, 1) := by decide +kernel
theorem dX11_back_17 : decode cX11_back 17 = .ok (.getfield 36, 3) := by decide +kernel
theorem dX11_back_20 : decode cX11_back 20 = .ok (.aload_n 2, 1) := by decide +kernel
theorem dX11_back_21 : decode cX11_back 21 = .ok (.invokevirtual 356, 3) := by decide +kernel
theorem dX11_back_24 : decode cX11_back 24 = .ok (.aload_n 0, 1) := by decide +kernel
theorem dX11_back_25 : decode cX11_back 25 = .ok (.getfield 40, 3) := by decide +kernel
theorem dX11_back_28 : decode cX11_back 28 = .ok (.invokevirtual 359, 3) := by decide +kernel
theorem dX11_back_31 : decode cX11_back 31 = .ok (.aload_n 0, 1) := by decide +kernel
theorem dX11_back_32 : decode cX11_back 32 = .ok (.getfield 19, 3) := by decide +kernel
theorem dX11_back_35 : decode cX11_back 35 = .ok (.iload_n 1, 1) := by decide +kernel
theorem dX11_back_36 : decode cX11_back 36 = .ok (.invokevirtual 362, 3) := by decide +kernel
theorem dX11_back_39 : decode cX11_back 39 = .ok (.aload_n 0, 1) := by decide +kernel
theorem dX11_back_40 : decode cX11_back 40 = .ok (.getfield 36, 3) := by decide +kernel
theorem dX11_back_43 : decode cX11_back 43 = .ok (.invokevirtual 99, 3) := by decide +kernel
theorem dX11_back_46 : decode cX11_back 46 = .ok (.ireturn, 1) := by decide +kernel
theorem dX11_count_0 : decode cX11_count 0 = .ok (.iload_n 1, 1) := by decide +kernel
theorem dX11_count_1 : decode cX11_count 1 = .ok (.tableswitch 120 0 8 #[51, 59, 67, 78, 86, 94, 102, 110, 115], 51) := by decide +kernel
theorem dX11_count_52 : decode cX11_count 52 = .ok (.aload_n 0, 1) := by decide +kernel
theorem dX11_count_53 : decode cX11_count 53 = .ok (.getfield 36, 3) := by decide +kernel
theorem dX11_count_56 : decode cX11_count 56 = .ok (.invokevirtual 99, 3) := by decide +kernel
theorem dX11_count_59 : decode cX11_count 59 = .ok (.ireturn, 1) := by decide +kernel
theorem dX11_count_60 : decode cX11_count 60 = .ok (.aload_n 0, 1) := by decide +kernel
theorem dX11_count_61 : decode cX11_count 61 = .ok (.getfield 36, 3) := by decide +kernel
theorem dX11_count_64 : decode cX11_count 64 = .ok (.invokevirtual 365, 3) := by decide +kernel
theorem dX11_count_67 : decode cX11_count 67 = .ok (.ireturn, 1) := by decide +kernel
theorem dX11_count_68 : decode cX11_count 68 = .ok (.aload_n 0, 1) := by decide +kernel
theorem dX11_count_69 : decode cX11_count 69 = .ok (.getfield 40, 3) := by decide +kernel
theorem dX11_count_72 : decode cX11_count 72 = .ok (.invokevirtual 368, 3) := by decide +kernel
theorem dX11_count_75 : decode cX11_count 75 = .ok (.invokestatic 293, 3) := by decide +kernel
theorem dX11_count_78 : decode cX11_count 78 = .ok (.ireturn, 1) := by decide +kernel
theorem dX11_count_79 : decode cX11_count 79 = .ok (.aload_n 0, 1) := by decide +kernel
theorem dX11_count_80 : decode cX11_count 80 = .ok (.getfield 40, 3) := by decide +kernel
theorem dX11_count_83 : decode cX11_count 83 = .ok (.invokevirtual 130, 3) := by decide +kernel
theorem dX11_count_86 : decode cX11_count 86 = .ok (.ireturn, 1) := by decide +kernel
theorem dX11_count_87 : decode cX11_count 87 = .ok (.aload_n 0, 1) := by decide +kernel
theorem dX11_count_88 : decode cX11_count 88 = .ok (.getfield 53, 3) := by decide +kernel
theorem dX11_count_91 : decode cX11_count 91 = .ok (.invokevirtual 192, 3) := by decide +kernel
theorem dX11_count_94 : decode cX11_count 94 = .ok (.ireturn, 1) := by decide +kernel
theorem dX11_count_95 : decode cX11_count 95 = .ok (.aload_n 0, 1) := by decide +kernel
theorem dX11_count_96 : decode cX11_count 96 = .ok (.getfield 19, 3) := by decide +kernel
theorem dX11_count_99 : decode cX11_count 99 = .ok (.invokevirtual 371, 3) := by decide +kernel
theorem dX11_count_102 : decode cX11_count 102 = .ok (.ireturn, 1) := by decide +kernel
theorem dX11_count_103 : decode cX11_count 103 = .ok (.aload_n 0, 1) := by decide +kernel
theorem dX11_count_104 : decode cX11_count 104 = .ok (.getfield 10, 3) := by decide +kernel
theorem dX11_count_107 : decode cX11_count 107 = .ok (.invokevirtual 172, 3) := by decide +kernel
theorem dX11_count_110 : decode cX11_count 110 = .ok (.ireturn, 1) := by decide +kernel
theorem dX11_count_111 : decode cX11_count 111 = .ok (.aload_n 0, 1) := by decide +kernel
theorem dX11_count_112 : decode cX11_count 112 = .ok (.getfield 271, 3) := by decide +kernel
theorem dX11_count_115 : decode cX11_count 115 = .ok (.ireturn, 1) := by decide +kernel
theorem dX11_count_116 : decode cX11_count 116 = .ok (.aload_n 0, 1) := by decide +kernel
theorem dX11_count_117 : decode cX11_count 117 = .ok (.getfield 284, 3) := by decide +kernel
theorem dX11_count_120 : decode cX11_count 120 = .ok (.ireturn, 1) := by decide +kernel
theorem dX11_count_121 : decode cX11_count 121 = .ok (.bipush (-102), 2) := by decide +kernel
theorem dX11_count_123 : decode cX11_count 123 = .ok (.ireturn, 1) := by decide +kernel
theorem dX11_digest_0 : decode cX11_digest 0 = .ok (.ldc2_w 374, 3) := by decide +kernel
theorem dX11_digest_3 : decode cX11_digest 3 = .ok (.aload_n 0, 1) := by decide +kernel
theorem dX11_digest_4 : decode cX11_digest 4 = .ok (.getfield 36, 3) := by decide +kernel
theorem dX11_digest_7 : decode cX11_digest 7 = .ok (.invokevirtual 116, 3) := by decide +kernel
theorem dX11_digest_10 : decode cX11_digest 10 = .ok (.i2l, 1) := by decide +kernel
theorem dX11_digest_11 : decode cX11_digest 11 = .ok (.invokestatic 376, 3) := by decide +kernel
theorem dX11_digest_14 : decode cX11_digest 14 = .ok (.lstore_n 1, 1) := by decide +kernel
theorem dX11_digest_15 : decode cX11_digest 15 = .ok (.aload_n 0, 1) := by decide +kernel
theorem dX11_digest_16 : decode cX11_digest 16 = .ok (.lload_n 1, 1) := by decide +kernel
theorem dX11_digest_17 : decode cX11_digest 17 = .ok (.invokevirtual 380, 3) := by decide +kernel
theorem dX11_digest_20 : decode cX11_digest 20 = .ok (.lstore_n 1, 1) := by decide +kernel
theorem dX11_digest_21 : decode cX11_digest 21 = .ok (.iconst 0, 1) := by decide +kernel
theorem dX11_digest_22 : decode cX11_digest 22 = .ok (.istore_n 3, 1) := by decide +kernel
theorem dX11_digest_23 : decode cX11_digest 23 = .ok (.iload_n 3, 1) := by decide +kernel
theorem dX11_digest_24 : decode cX11_digest 24 = .ok (.bipush 8, 2) := by decide +kernel
theorem dX11_digest_26 : decode cX11_digest 26 = .ok (.if_icmp .ge 16, 3) := by decide +kernel
theorem dX11_digest_29 : decode cX11_digest 29 = .ok (.aload_n 0, 1) := by decide +kernel
theorem dX11_digest_30 : decode cX11_digest 30 = .ok (.lload_n 1, 1) := by decide +kernel
theorem dX11_digest_31 : decode cX11_digest 31 = .ok (.iload_n 3, 1) := by decide +kernel
theorem dX11_digest_32 : decode cX11_digest 32 = .ok (.invokevirtual 384, 3) := by decide +kernel
theorem dX11_digest_35 : decode cX11_digest 35 = .ok (.lstore_n 1, 1) := by decide +kernel
theorem dX11_digest_36 : decode cX11_digest 36 = .ok (.iinc 3 1, 3) := by decide +kernel
theorem dX11_digest_39 : decode cX11_digest 39 = .ok (.goto (-16), 3) := by decide +kernel
theorem dX11_digest_42 : decode cX11_digest 42 = .ok (.iconst 0, 1) := by decide +kernel
theorem dX11_digest_43 : decode cX11_digest 43 = .ok (.istore_n 3, 1) := by decide +kernel
theorem dX11_digest_44 : decode cX11_digest 44 = .ok (.iload_n 3, 1) := by decide +kernel
theorem dX11_digest_45 : decode cX11_digest 45 = .ok (.aload_n 0, 1) := by decide +kernel
theorem dX11_digest_46 : decode cX11_digest 46 = .ok (.getfield 53, 3) := by decide +kernel
theorem dX11_digest_49 : decode cX11_digest 49 = .ok (.invokevirtual 192, 3) := by decide +kernel
theorem dX11_digest_52 : decode cX11_digest 52 = .ok (.if_icmp .ge 16, 3) := by decide +kernel
theorem dX11_digest_55 : decode cX11_digest 55 = .ok (.aload_n 0, 1) := by decide +kernel
theorem dX11_digest_56 : decode cX11_digest 56 = .ok (.lload_n 1, 1) := by decide +kernel
theorem dX11_digest_57 : decode cX11_digest 57 = .ok (.iload_n 3, 1) := by decide +kernel
theorem dX11_digest_58 : decode cX11_digest 58 = .ok (.invokevirtual 388, 3) := by decide +kernel
theorem dX11_digest_61 : decode cX11_digest 61 = .ok (.lstore_n 1, 1) := by decide +kernel
theorem dX11_digest_62 : decode cX11_digest 62 = .ok (.iinc 3 1, 3) := by decide +kernel
theorem dX11_digest_65 : decode cX11_digest 65 = .ok (.goto (-21), 3) := by decide +kernel
theorem dX11_digest_68 : decode cX11_digest 68 = .ok (.lload_n 1, 1) := by decide +kernel
theorem dX11_digest_69 : decode cX11_digest 69 = .ok (.aload_n 0, 1) := by decide +kernel
theorem dX11_digest_70 : decode cX11_digest 70 = .ok (.getfield 53, 3) := by decide +kernel
theorem dX11_digest_73 : decode cX11_digest 73 = .ok (.invokevirtual 262, 3) := by decide +kernel
theorem dX11_digest_76 : decode cX11_digest 76 = .ok (.i2l, 1) := by decide +kernel
theorem dX11_digest_77 : decode cX11_digest 77 = .ok (.invokestatic 376, 3) := by decide +kernel
theorem dX11_digest_80 : decode cX11_digest 80 = .ok (.lstore_n 1, 1) := by decide +kernel
theorem dX11_digest_81 : decode cX11_digest 81 = .ok (.aload_n 0, 1) := by decide +kernel
theorem dX11_digest_82 : decode cX11_digest 82 = .ok (.lload_n 1, 1) := by decide +kernel
theorem dX11_digest_83 : decode cX11_digest 83 = .ok (.invokevirtual 391, 3) := by decide +kernel
theorem dX11_digest_86 : decode cX11_digest 86 = .ok (.lstore_n 1, 1) := by decide +kernel
theorem dX11_digest_87 : decode cX11_digest 87 = .ok (.iconst 0, 1) := by decide +kernel
theorem dX11_digest_88 : decode cX11_digest 88 = .ok (.istore_n 3, 1) := by decide +kernel
theorem dX11_digest_89 : decode cX11_digest 89 = .ok (.iload_n 3, 1) := by decide +kernel
theorem dX11_digest_90 : decode cX11_digest 90 = .ok (.aload_n 0, 1) := by decide +kernel
theorem dX11_digest_91 : decode cX11_digest 91 = .ok (.getfield 10, 3) := by decide +kernel
theorem dX11_digest_94 : decode cX11_digest 94 = .ok (.invokevirtual 172, 3) := by decide +kernel
theorem dX11_digest_97 : decode cX11_digest 97 = .ok (.if_icmp .ge 23, 3) := by decide +kernel
theorem dX11_digest_100 : decode cX11_digest 100 = .ok (.lload_n 1, 1) := by decide +kernel
theorem dX11_digest_101 : decode cX11_digest 101 = .ok (.aload_n 0, 1) := by decide +kernel
theorem dX11_digest_102 : decode cX11_digest 102 = .ok (.getfield 10, 3) := by decide +kernel
theorem dX11_digest_105 : decode cX11_digest 105 = .ok (.iload_n 3, 1) := by decide +kernel
theorem dX11_digest_106 : decode cX11_digest 106 = .ok (.invokevirtual 394, 3) := by decide +kernel
theorem dX11_digest_109 : decode cX11_digest 109 = .ok (.i2l, 1) := by decide +kernel
theorem dX11_digest_110 : decode cX11_digest 110 = .ok (.invokestatic 376, 3) := by decide +kernel
theorem dX11_digest_113 : decode cX11_digest 113 = .ok (.lstore_n 1, 1) := by decide +kernel
theorem dX11_digest_114 : decode cX11_digest 114 = .ok (.iinc 3 1, 3) := by decide +kernel
theorem dX11_digest_117 : decode cX11_digest 117 = .ok (.goto (-28), 3) := by decide +kernel
theorem dX11_digest_120 : decode cX11_digest 120 = .ok (.iconst 0, 1) := by decide +kernel
theorem dX11_digest_121 : decode cX11_digest 121 = .ok (.istore_n 3, 1) := by decide +kernel
theorem dX11_digest_122 : decode cX11_digest 122 = .ok (.iload_n 3, 1) := by decide +kernel
theorem dX11_digest_123 : decode cX11_digest 123 = .ok (.bipush 9, 2) := by decide +kernel
theorem dX11_digest_125 : decode cX11_digest 125 = .ok (.if_icmp .ge 20, 3) := by decide +kernel
theorem dX11_digest_128 : decode cX11_digest 128 = .ok (.lload_n 1, 1) := by decide +kernel
theorem dX11_digest_129 : decode cX11_digest 129 = .ok (.aload_n 0, 1) := by decide +kernel
theorem dX11_digest_130 : decode cX11_digest 130 = .ok (.iload_n 3, 1) := by decide +kernel
theorem dX11_digest_131 : decode cX11_digest 131 = .ok (.invokevirtual 397, 3) := by decide +kernel
theorem dX11_digest_134 : decode cX11_digest 134 = .ok (.i2l, 1) := by decide +kernel
theorem dX11_digest_135 : decode cX11_digest 135 = .ok (.invokestatic 376, 3) := by decide +kernel
theorem dX11_digest_138 : decode cX11_digest 138 = .ok (.lstore_n 1, 1) := by decide +kernel
theorem dX11_digest_139 : decode cX11_digest 139 = .ok (.iinc 3 1, 3) := by decide +kernel
theorem dX11_digest_142 : decode cX11_digest 142 = .ok (.goto (-20), 3) := by decide +kernel
theorem dX11_digest_145 : decode cX11_digest 145 = .ok (.lload_n 1, 1) := by decide +kernel
theorem dX11_digest_146 : decode cX11_digest 146 = .ok (.lreturn, 1) := by decide +kernel
theorem dX11_mixTable_0 : decode cX11_mixTable 0 = .ok (.lload_n 1, 1) := by decide +kernel
theorem dX11_mixTable_1 : decode cX11_mixTable 1 = .ok (.lstore_n 3, 1) := by decide +kernel
theorem dX11_mixTable_2 : decode cX11_mixTable 2 = .ok (.iconst 0, 1) := by decide +kernel
theorem dX11_mixTable_3 : decode cX11_mixTable 3 = .ok (.istore 5, 2) := by decide +kernel
theorem dX11_mixTable_5 : decode cX11_mixTable 5 = .ok (.iload 5, 2) := by decide +kernel
theorem dX11_mixTable_7 : decode cX11_mixTable 7 = .ok (.bipush 64, 2) := by decide +kernel
theorem dX11_mixTable_9 : decode cX11_mixTable 9 = .ok (.if_icmp .ge 38, 3) := by decide +kernel
theorem dX11_mixTable_12 : decode cX11_mixTable 12 = .ok (.iconst 0, 1) := by decide +kernel
theorem dX11_mixTable_13 : decode cX11_mixTable 13 = .ok (.istore 6, 2) := by decide +kernel
theorem dX11_mixTable_15 : decode cX11_mixTable 15 = .ok (.iload 6, 2) := by decide +kernel
theorem dX11_mixTable_17 : decode cX11_mixTable 17 = .ok (.iconst 4, 1) := by decide +kernel
theorem dX11_mixTable_18 : decode cX11_mixTable 18 = .ok (.if_icmp .ge 23, 3) := by decide +kernel
theorem dX11_mixTable_21 : decode cX11_mixTable 21 = .ok (.lload_n 3, 1) := by decide +kernel
theorem dX11_mixTable_22 : decode cX11_mixTable 22 = .ok (.aload_n 0, 1) := by decide +kernel
theorem dX11_mixTable_23 : decode cX11_mixTable 23 = .ok (.iload 5, 2) := by decide +kernel
theorem dX11_mixTable_25 : decode cX11_mixTable 25 = .ok (.iload 6, 2) := by decide +kernel
theorem dX11_mixTable_27 : decode cX11_mixTable 27 = .ok (.invokevirtual 400, 3) := by decide +kernel
theorem dX11_mixTable_30 : decode cX11_mixTable 30 = .ok (.i2l, 1) := by decide +kernel
theorem dX11_mixTable_31 : decode cX11_mixTable 31 = .ok (.invokestatic 376, 3) := by decide +kernel
theorem dX11_mixTable_34 : decode cX11_mixTable 34 = .ok (.lstore_n 3, 1) := by decide +kernel
theorem dX11_mixTable_35 : decode cX11_mixTable 35 = .ok (.iinc 6 1, 3) := by decide +kernel
theorem dX11_mixTable_38 : decode cX11_mixTable 38 = .ok (.goto (-23), 3) := by decide +kernel
theorem dX11_mixTable_41 : decode cX11_mixTable 41 = .ok (.iinc 5 1, 3) := by decide +kernel
theorem dX11_mixTable_44 : decode cX11_mixTable 44 = .ok (.goto (-39), 3) := by decide +kernel
theorem dX11_mixTable_47 : decode cX11_mixTable 47 = .ok (.lload_n 3, 1) := by decide +kernel
theorem dX11_mixTable_48 : decode cX11_mixTable 48 = .ok (.lreturn, 1) := by decide +kernel
theorem dX11_mixOrder_0 : decode cX11_mixOrder 0 = .ok (.aload_n 0, 1) := by decide +kernel
theorem dX11_mixOrder_1 : decode cX11_mixOrder 1 = .ok (.getfield 40, 3) := by decide +kernel
theorem dX11_mixOrder_4 : decode cX11_mixOrder 4 = .ok (.iload_n 3, 1) := by decide +kernel
theorem dX11_mixOrder_5 : decode cX11_mixOrder 5 = .ok (.invokevirtual 137, 3) := by decide +kernel
theorem dX11_mixOrder_8 : decode cX11_mixOrder 8 = .ok (.astore 4, 2) := by decide +kernel
theorem dX11_mixOrder_10 : decode cX11_mixOrder 10 = .ok (.aload 4, 2) := by decide +kernel
theorem dX11_mixOrder_12 : decode cX11_mixOrder 12 = .ok (.ifnonnull 5, 3) := by decide +kernel
theorem dX11_mixOrder_15 : decode cX11_mixOrder 15 = .ok (.lload_n 1, 1) := by decide +kernel
theorem dX11_mixOrder_16 : decode cX11_mixOrder 16 = .ok (.lreturn, 1) := by decide +kernel
theorem dX11_mixOrder_17 : decode cX11_mixOrder 17 = .ok (.lload_n 1, 1) := by decide +kernel
theorem dX11_mixOrder_18 : decode cX11_mixOrder 18 = .ok (.lstore 5, 2) := by decide +kernel
theorem dX11_mixOrder_20 : decode cX11_mixOrder 20 = .ok (.iconst 0, 1) := by decide +kernel
theorem dX11_mixOrder_21 : decode cX11_mixOrder 21 = .ok (.istore 7, 2) := by decide +kernel
theorem dX11_mixOrder_23 : decode cX11_mixOrder 23 = .ok (.iload 7, 2) := by decide +kernel
theorem dX11_mixOrder_25 : decode cX11_mixOrder 25 = .ok (.iconst 5, 1) := by decide +kernel
theorem dX11_mixOrder_26 : decode cX11_mixOrder 26 = .ok (.if_icmp .ge 24, 3) := by decide +kernel
theorem dX11_mixOrder_29 : decode cX11_mixOrder 29 = .ok (.lload 5, 2) := by decide +kernel
theorem dX11_mixOrder_31 : decode cX11_mixOrder 31 = .ok (.aload_n 0, 1) := by decide +kernel
theorem dX11_mixOrder_32 : decode cX11_mixOrder 32 = .ok (.iload_n 3, 1) := by decide +kernel
theorem dX11_mixOrder_33 : decode cX11_mixOrder 33 = .ok (.iload 7, 2) := by decide +kernel
theorem dX11_mixOrder_35 : decode cX11_mixOrder 35 = .ok (.invokevirtual 403, 3) := by decide +kernel
theorem dX11_mixOrder_38 : decode cX11_mixOrder 38 = .ok (.i2l, 1) := by decide +kernel
theorem dX11_mixOrder_39 : decode cX11_mixOrder 39 = .ok (.invokestatic 376, 3) := by decide +kernel
theorem dX11_mixOrder_42 : decode cX11_mixOrder 42 = .ok (.lstore 5, 2) := by decide +kernel
theorem dX11_mixOrder_44 : decode cX11_mixOrder 44 = .ok (.iinc 7 1, 3) := by decide +kernel
theorem dX11_mixOrder_47 : decode cX11_mixOrder 47 = .ok (.goto (-24), 3) := by decide +kernel
theorem dX11_mixOrder_50 : decode cX11_mixOrder 50 = .ok (.iconst 0, 1) := by decide +kernel
theorem dX11_mixOrder_51 : decode cX11_mixOrder 51 = .ok (.istore 7, 2) := by decide +kernel
theorem dX11_mixOrder_53 : decode cX11_mixOrder 53 = .ok (.iload 7, 2) := by decide +kernel
theorem dX11_mixOrder_55 : decode cX11_mixOrder 55 = .ok (.aload 4, 2) := by decide +kernel
theorem dX11_mixOrder_57 : decode cX11_mixOrder 57 = .ok (.invokevirtual 406, 3) := by decide +kernel
theorem dX11_mixOrder_60 : decode cX11_mixOrder 60 = .ok (.if_icmp .ge 24, 3) := by decide +kernel
theorem dX11_mixOrder_63 : decode cX11_mixOrder 63 = .ok (.lload 5, 2) := by decide +kernel
theorem dX11_mixOrder_65 : decode cX11_mixOrder 65 = .ok (.aload 4, 2) := by decide +kernel
theorem dX11_mixOrder_67 : decode cX11_mixOrder 67 = .ok (.iload 7, 2) := by decide +kernel
theorem dX11_mixOrder_69 : decode cX11_mixOrder 69 = .ok (.invokevirtual 162, 3) := by decide +kernel
theorem dX11_mixOrder_72 : decode cX11_mixOrder 72 = .ok (.i2l, 1) := by decide +kernel
theorem dX11_mixOrder_73 : decode cX11_mixOrder 73 = .ok (.invokestatic 376, 3) := by decide +kernel
theorem dX11_mixOrder_76 : decode cX11_mixOrder 76 = .ok (.lstore 5, 2) := by decide +kernel
theorem dX11_mixOrder_78 : decode cX11_mixOrder 78 = .ok (.iinc 7 1, 3) := by decide +kernel
theorem dX11_mixOrder_81 : decode cX11_mixOrder 81 = .ok (.goto (-28), 3) := by decide +kernel
theorem dX11_mixOrder_84 : decode cX11_mixOrder 84 = .ok (.lload 5, 2) := by decide +kernel
theorem dX11_mixOrder_86 : decode cX11_mixOrder 86 = .ok (.lreturn, 1) := by decide +kernel
theorem dX11_mixQuestion_0 : decode cX11_mixQuestion 0 = .ok (.aload_n 0, 1) := by decide +kernel
theorem dX11_mixQuestion_1 : decode cX11_mixQuestion 1 = .ok (.getfield 53, 3) := by decide +kernel
theorem dX11_mixQuestion_4 : decode cX11_mixQuestion 4 = .ok (.iload_n 3, 1) := by decide +kernel
theorem dX11_mixQuestion_5 : decode cX11_mixQuestion 5 = .ok (.invokevirtual 203, 3) := by decide +kernel
theorem dX11_mixQuestion_8 : decode cX11_mixQuestion 8 = .ok (.astore 4, 2) := by decide +kernel
theorem dX11_mixQuestion_10 : decode cX11_mixQuestion 10 = .ok (.aload 4, 2) := by decide +kernel
theorem dX11_mixQuestion_12 : decode cX11_mixQuestion 12 = .ok (.ifnonnull 5, 3) := by decide +kernel
theorem dX11_mixQuestion_15 : decode cX11_mixQuestion 15 = .ok (.lload_n 1, 1) := by decide +kernel
theorem dX11_mixQuestion_16 : decode cX11_mixQuestion 16 = .ok (.lreturn, 1) := by decide +kernel
theorem dX11_mixQuestion_17 : decode cX11_mixQuestion 17 = .ok (.lload_n 1, 1) := by decide +kernel
theorem dX11_mixQuestion_18 : decode cX11_mixQuestion 18 = .ok (.lstore 5, 2) := by decide +kernel
theorem dX11_mixQuestion_20 : decode cX11_mixQuestion 20 = .ok (.iconst 0, 1) := by decide +kernel
theorem dX11_mixQuestion_21 : decode cX11_mixQuestion 21 = .ok (.istore 7, 2) := by decide +kernel
theorem dX11_mixQuestion_23 : decode cX11_mixQuestion 23 = .ok (.iload 7, 2) := by decide +kernel
theorem dX11_mixQuestion_25 : decode cX11_mixQuestion 25 = .ok (.iconst 4, 1) := by decide +kernel
theorem dX11_mixQuestion_26 : decode cX11_mixQuestion 26 = .ok (.if_icmp .ge 41, 3) := by decide +kernel
theorem dX11_mixQuestion_29 : decode cX11_mixQuestion 29 = .ok (.lload 5, 2) := by decide +kernel
theorem dX11_mixQuestion_31 : decode cX11_mixQuestion 31 = .ok (.aload_n 0, 1) := by decide +kernel
theorem dX11_mixQuestion_32 : decode cX11_mixQuestion 32 = .ok (.iload_n 3, 1) := by decide +kernel
theorem dX11_mixQuestion_33 : decode cX11_mixQuestion 33 = .ok (.iload 7, 2) := by decide +kernel
theorem dX11_mixQuestion_35 : decode cX11_mixQuestion 35 = .ok (.iconst 0, 1) := by decide +kernel
theorem dX11_mixQuestion_36 : decode cX11_mixQuestion 36 = .ok (.invokevirtual 409, 3) := by decide +kernel
theorem dX11_mixQuestion_39 : decode cX11_mixQuestion 39 = .ok (.i2l, 1) := by decide +kernel
theorem dX11_mixQuestion_40 : decode cX11_mixQuestion 40 = .ok (.invokestatic 376, 3) := by decide +kernel
theorem dX11_mixQuestion_43 : decode cX11_mixQuestion 43 = .ok (.lstore 5, 2) := by decide +kernel
theorem dX11_mixQuestion_45 : decode cX11_mixQuestion 45 = .ok (.lload 5, 2) := by decide +kernel
theorem dX11_mixQuestion_47 : decode cX11_mixQuestion 47 = .ok (.aload_n 0, 1) := by decide +kernel
theorem dX11_mixQuestion_48 : decode cX11_mixQuestion 48 = .ok (.iload_n 3, 1) := by decide +kernel
theorem dX11_mixQuestion_49 : decode cX11_mixQuestion 49 = .ok (.iload 7, 2) := by decide +kernel
theorem dX11_mixQuestion_51 : decode cX11_mixQuestion 51 = .ok (.iconst 1, 1) := by decide +kernel
theorem dX11_mixQuestion_52 : decode cX11_mixQuestion 52 = .ok (.invokevirtual 409, 3) := by decide +kernel
theorem dX11_mixQuestion_55 : decode cX11_mixQuestion 55 = .ok (.i2l, 1) := by decide +kernel
theorem dX11_mixQuestion_56 : decode cX11_mixQuestion 56 = .ok (.invokestatic 376, 3) := by decide +kernel
theorem dX11_mixQuestion_59 : decode cX11_mixQuestion 59 = .ok (.lstore 5, 2) := by decide +kernel
theorem dX11_mixQuestion_61 : decode cX11_mixQuestion 61 = .ok (.iinc 7 1, 3) := by decide +kernel
theorem dX11_mixQuestion_64 : decode cX11_mixQuestion 64 = .ok (.goto (-41), 3) := by decide +kernel
theorem dX11_mixQuestion_67 : decode cX11_mixQuestion 67 = .ok (.lload 5, 2) := by decide +kernel
theorem dX11_mixQuestion_69 : decode cX11_mixQuestion 69 = .ok (.aload 4, 2) := by decide +kernel
theorem dX11_mixQuestion_71 : decode cX11_mixQuestion 71 = .ok (.invokevirtual 218, 3) := by decide +kernel
theorem dX11_mixQuestion_74 : decode cX11_mixQuestion 74 = .ok (.i2l, 1) := by decide +kernel
theorem dX11_mixQuestion_75 : decode cX11_mixQuestion 75 = .ok (.invokestatic 376, 3) := by decide +kernel
theorem dX11_mixQuestion_78 : decode cX11_mixQuestion 78 = .ok (.lreturn, 1) := by decide +kernel
theorem dX11_mixPictures_0 : decode cX11_mixPictures 0 = .ok (.lload_n 1, 1) := by decide +kernel
theorem dX11_mixPictures_1 : decode cX11_mixPictures 1 = .ok (.lstore_n 3, 1) := by decide +kernel
theorem dX11_mixPictures_2 : decode cX11_mixPictures 2 = .ok (.iconst 0, 1) := by decide +kernel
theorem dX11_mixPictures_3 : decode cX11_mixPictures 3 = .ok (.istore 5, 2) := by decide +kernel
theorem dX11_mixPictures_5 : decode cX11_mixPictures 5 = .ok (.iload 5, 2) := by decide +kernel
theorem dX11_mixPictures_7 : decode cX11_mixPictures 7 = .ok (.iconst 4, 1) := by decide +kernel
theorem dX11_mixPictures_8 : decode cX11_mixPictures 8 = .ok (.if_icmp .ge 55, 3) := by decide +kernel
theorem dX11_mixPictures_11 : decode cX11_mixPictures 11 = .ok (.iconst 0, 1) := by decide +kernel
theorem dX11_mixPictures_12 : decode cX11_mixPictures 12 = .ok (.istore 6, 2) := by decide +kernel
theorem dX11_mixPictures_14 : decode cX11_mixPictures 14 = .ok (.iload 6, 2) := by decide +kernel
theorem dX11_mixPictures_16 : decode cX11_mixPictures 16 = .ok (.iconst 4, 1) := by decide +kernel
theorem dX11_mixPictures_17 : decode cX11_mixPictures 17 = .ok (.if_icmp .ge 40, 3) := by decide +kernel
theorem dX11_mixPictures_20 : decode cX11_mixPictures 20 = .ok (.iconst 0, 1) := by decide +kernel
theorem dX11_mixPictures_21 : decode cX11_mixPictures 21 = .ok (.istore 7, 2) := by decide +kernel
theorem dX11_mixPictures_23 : decode cX11_mixPictures 23 = .ok (.iload 7, 2) := by decide +kernel
theorem dX11_mixPictures_25 : decode cX11_mixPictures 25 = .ok (.iconst 3, 1) := by decide +kernel
theorem dX11_mixPictures_26 : decode cX11_mixPictures 26 = .ok (.if_icmp .ge 25, 3) := by decide +kernel
theorem dX11_mixPictures_29 : decode cX11_mixPictures 29 = .ok (.lload_n 3, 1) := by decide +kernel
theorem dX11_mixPictures_30 : decode cX11_mixPictures 30 = .ok (.aload_n 0, 1) := by decide +kernel
theorem dX11_mixPictures_31 : decode cX11_mixPictures 31 = .ok (.iload 5, 2) := by decide +kernel
theorem dX11_mixPictures_33 : decode cX11_mixPictures 33 = .ok (.iload 6, 2) := by decide +kernel
theorem dX11_mixPictures_35 : decode cX11_mixPictures 35 = .ok (.iload 7, 2) := by decide +kernel
theorem dX11_mixPictures_37 : decode cX11_mixPictures 37 = .ok (.invokevirtual 413, 3) := by decide +kernel
theorem dX11_mixPictures_40 : decode cX11_mixPictures 40 = .ok (.i2l, 1) := by decide +kernel
theorem dX11_mixPictures_41 : decode cX11_mixPictures 41 = .ok (.invokestatic 376, 3) := by decide +kernel
theorem dX11_mixPictures_44 : decode cX11_mixPictures 44 = .ok (.lstore_n 3, 1) := by decide +kernel
theorem dX11_mixPictures_45 : decode cX11_mixPictures 45 = .ok (.iinc 7 1, 3) := by decide +kernel
theorem dX11_mixPictures_48 : decode cX11_mixPictures 48 = .ok (.goto (-25), 3) := by decide +kernel
theorem dX11_mixPictures_51 : decode cX11_mixPictures 51 = .ok (.iinc 6 1, 3) := by decide +kernel
theorem dX11_mixPictures_54 : decode cX11_mixPictures 54 = .ok (.goto (-40), 3) := by decide +kernel
theorem dX11_mixPictures_57 : decode cX11_mixPictures 57 = .ok (.iinc 5 1, 3) := by decide +kernel
theorem dX11_mixPictures_60 : decode cX11_mixPictures 60 = .ok (.goto (-55), 3) := by decide +kernel
theorem dX11_mixPictures_63 : decode cX11_mixPictures 63 = .ok (.lload_n 3, 1) := by decide +kernel
theorem dX11_mixPictures_64 : decode cX11_mixPictures 64 = .ok (.lreturn, 1) := by decide +kernel
theorem dX11_mixed_0 : decode cX11_mixed 0 = .ok (.ldc2_w 416, 3) := by decide +kernel
theorem dX11_mixed_3 : decode cX11_mixed 3 = .ok (.lload_n 0, 1) := by decide +kernel
theorem dX11_mixed_4 : decode cX11_mixed 4 = .ok (.lmul, 1) := by decide +kernel
theorem dX11_mixed_5 : decode cX11_mixed 5 = .ok (.lload_n 2, 1) := by decide +kernel
theorem dX11_mixed_6 : decode cX11_mixed 6 = .ok (.ladd, 1) := by decide +kernel
theorem dX11_mixed_7 : decode cX11_mixed 7 = .ok (.lreturn, 1) := by decide +kernel
theorem dX11_rowComes_0 : decode cX11_rowComes 0 = .ok (.aload_n 0, 1) := by decide +kernel
theorem dX11_rowComes_1 : decode cX11_rowComes 1 = .ok (.getfield 36, 3) := by decide +kernel
theorem dX11_rowComes_4 : decode cX11_rowComes 4 = .ok (.iload_n 1, 1) := by decide +kernel
theorem dX11_rowComes_5 : decode cX11_rowComes 5 = .ok (.invokevirtual 418, 3) := by decide +kernel
theorem dX11_rowComes_8 : decode cX11_rowComes 8 = .ok (.aload_n 0, 1) := by decide +kernel
theorem dX11_rowComes_9 : decode cX11_rowComes 9 = .ok (.getfield 40, 3) := by decide +kernel
theorem dX11_rowComes_12 : decode cX11_rowComes 12 = .ok (.iload_n 1, 1) := by decide +kernel
theorem dX11_rowComes_13 : decode cX11_rowComes 13 = .ok (.invokevirtual 93, 3) := by decide +kernel
theorem dX11_rowComes_16 : decode cX11_rowComes 16 = .ok (.return_, 1) := by decide +kernel
theorem dX11_lettersIn_0 : decode cX11_lettersIn 0 = .ok (.iconst 0, 1) := by decide +kernel
theorem dX11_lettersIn_1 : decode cX11_lettersIn 1 = .ok (.istore_n 2, 1) := by decide +kernel
theorem dX11_lettersIn_2 : decode cX11_lettersIn 2 = .ok (.iconst 0, 1) := by decide +kernel
theorem dX11_lettersIn_3 : decode cX11_lettersIn 3 = .ok (.istore_n 3, 1) := by decide +kernel
theorem dX11_lettersIn_4 : decode cX11_lettersIn 4 = .ok (.iload_n 3, 1) := by decide +kernel
theorem dX11_lettersIn_5 : decode cX11_lettersIn 5 = .ok (.bipush 8, 2) := by decide +kernel
theorem dX11_lettersIn_7 : decode cX11_lettersIn 7 = .ok (.if_icmp .ge 41, 3) := by decide +kernel
theorem dX11_lettersIn_10 : decode cX11_lettersIn 10 = .ok (.lload_n 0, 1) := by decide +kernel
theorem dX11_lettersIn_11 : decode cX11_lettersIn 11 = .ok (.iload_n 3, 1) := by decide +kernel
theorem dX11_lettersIn_12 : decode cX11_lettersIn 12 = .ok (.invokestatic 175, 3) := by decide +kernel
theorem dX11_lettersIn_15 : decode cX11_lettersIn 15 = .ok (.istore 4, 2) := by decide +kernel
theorem dX11_lettersIn_17 : decode cX11_lettersIn 17 = .ok (.iload 4, 2) := by decide +kernel
theorem dX11_lettersIn_19 : decode cX11_lettersIn 19 = .ok (.ifCond .ne 6, 3) := by decide +kernel
theorem dX11_lettersIn_22 : decode cX11_lettersIn 22 = .ok (.goto 20, 3) := by decide +kernel
theorem dX11_lettersIn_25 : decode cX11_lettersIn 25 = .ok (.iload 4, 2) := by decide +kernel
theorem dX11_lettersIn_27 : decode cX11_lettersIn 27 = .ok (.bipush 126, 2) := by decide +kernel
theorem dX11_lettersIn_29 : decode cX11_lettersIn 29 = .ok (.if_icmp .gt 8, 3) := by decide +kernel
theorem dX11_lettersIn_32 : decode cX11_lettersIn 32 = .ok (.iload_n 2, 1) := by decide +kernel
theorem dX11_lettersIn_33 : decode cX11_lettersIn 33 = .ok (.iload_n 3, 1) := by decide +kernel
theorem dX11_lettersIn_34 : decode cX11_lettersIn 34 = .ok (.if_icmp .ge 5, 3) := by decide +kernel
theorem dX11_lettersIn_37 : decode cX11_lettersIn 37 = .ok (.iconst (-1), 1) := by decide +kernel
theorem dX11_lettersIn_38 : decode cX11_lettersIn 38 = .ok (.ireturn, 1) := by decide +kernel
theorem dX11_lettersIn_39 : decode cX11_lettersIn 39 = .ok (.iinc 2 1, 3) := by decide +kernel
theorem dX11_lettersIn_42 : decode cX11_lettersIn 42 = .ok (.iinc 3 1, 3) := by decide +kernel
theorem dX11_lettersIn_45 : decode cX11_lettersIn 45 = .ok (.goto (-41), 3) := by decide +kernel
theorem dX11_lettersIn_48 : decode cX11_lettersIn 48 = .ok (.iload_n 2, 1) := by decide +kernel
theorem dX11_lettersIn_49 : decode cX11_lettersIn 49 = .ok (.ireturn, 1) := by decide +kernel
theorem dX11_byteOf_0 : decode cX11_byteOf 0 = .ok (.lload_n 0, 1) := by decide +kernel
theorem dX11_byteOf_1 : decode cX11_byteOf 1 = .ok (.bipush 8, 2) := by decide +kernel
theorem dX11_byteOf_3 : decode cX11_byteOf 3 = .ok (.iload_n 2, 1) := by decide +kernel
theorem dX11_byteOf_4 : decode cX11_byteOf 4 = .ok (.imul, 1) := by decide +kernel
theorem dX11_byteOf_5 : decode cX11_byteOf 5 = .ok (.lushr, 1) := by decide +kernel
theorem dX11_byteOf_6 : decode cX11_byteOf 6 = .ok (.ldc2_w 421, 3) := by decide +kernel
theorem dX11_byteOf_9 : decode cX11_byteOf 9 = .ok (.land, 1) := by decide +kernel
theorem dX11_byteOf_10 : decode cX11_byteOf 10 = .ok (.l2i, 1) := by decide +kernel
theorem dX11_byteOf_11 : decode cX11_byteOf 11 = .ok (.ireturn, 1) := by decide +kernel
theorem dX11_isSlot_0 : decode cX11_isSlot 0 = .ok (.iload_n 0, 1) := by decide +kernel
theorem dX11_isSlot_1 : decode cX11_isSlot 1 = .ok (.ifCond .lt 13, 3) := by decide +kernel
theorem dX11_isSlot_4 : decode cX11_isSlot 4 = .ok (.iload_n 0, 1) := by decide +kernel
theorem dX11_isSlot_5 : decode cX11_isSlot 5 = .ok (.bipush 64, 2) := by decide +kernel
theorem dX11_isSlot_7 : decode cX11_isSlot 7 = .ok (.if_icmp .ge 7, 3) := by decide +kernel
theorem dX11_isSlot_10 : decode cX11_isSlot 10 = .ok (.iconst 1, 1) := by decide +kernel
theorem dX11_isSlot_11 : decode cX11_isSlot 11 = .ok (.goto 4, 3) := by decide +kernel
theorem dX11_isSlot_14 : decode cX11_isSlot 14 = .ok (.iconst 0, 1) := by decide +kernel
theorem dX11_isSlot_15 : decode cX11_isSlot 15 = .ok (.ireturn, 1) := by decide +kernel
theorem dX11_isColumn_0 : decode cX11_isColumn 0 = .ok (.iload_n 0, 1) := by decide +kernel
theorem dX11_isColumn_1 : decode cX11_isColumn 1 = .ok (.ifCond .lt 12, 3) := by decide +kernel
theorem dX11_isColumn_4 : decode cX11_isColumn 4 = .ok (.iload_n 0, 1) := by decide +kernel
theorem dX11_isColumn_5 : decode cX11_isColumn 5 = .ok (.iconst 4, 1) := by decide +kernel
theorem dX11_isColumn_6 : decode cX11_isColumn 6 = .ok (.if_icmp .ge 7, 3) := by decide +kernel
theorem dX11_isColumn_9 : decode cX11_isColumn 9 = .ok (.iconst 1, 1) := by decide +kernel
theorem dX11_isColumn_10 : decode cX11_isColumn 10 = .ok (.goto 4, 3) := by decide +kernel
theorem dX11_isColumn_13 : decode cX11_isColumn 13 = .ok (.iconst 0, 1) := by decide +kernel
theorem dX11_isColumn_14 : decode cX11_isColumn 14 = .ok (.ireturn, 1) := by decide +kernel
theorem dX11_isNumber_0 : decode cX11_isNumber 0 = .ok (.iload_n 0, 1) := by decide +kernel
theorem dX11_isNumber_1 : decode cX11_isNumber 1 = .ok (.ifCond .lt 13, 3) := by decide +kernel
theorem dX11_isNumber_4 : decode cX11_isNumber 4 = .ok (.iload_n 0, 1) := by decide +kernel
theorem dX11_isNumber_5 : decode cX11_isNumber 5 = .ok (.bipush 99, 2) := by decide +kernel
theorem dX11_isNumber_7 : decode cX11_isNumber 7 = .ok (.if_icmp .gt 7, 3) := by decide +kernel
theorem dX11_isNumber_10 : decode cX11_isNumber 10 = .ok (.iconst 1, 1) := by decide +kernel
theorem dX11_isNumber_11 : decode cX11_isNumber 11 = .ok (.goto 4, 3) := by decide +kernel
theorem dX11_isNumber_14 : decode cX11_isNumber 14 = .ok (.iconst 0, 1) := by decide +kernel
theorem dX11_isNumber_15 : decode cX11_isNumber 15 = .ok (.ireturn, 1) := by decide +kernel
theorem dX11_isSet_0 : decode cX11_isSet 0 = .ok (.iload_n 0, 1) := by decide +kernel
theorem dX11_isSet_1 : decode cX11_isSet 1 = .ok (.ifCond .lt 14, 3) := by decide +kernel
theorem dX11_isSet_4 : decode cX11_isSet 4 = .ok (.iload_n 0, 1) := by decide +kernel
theorem dX11_isSet_5 : decode cX11_isSet 5 = .ok (.sipush 255, 3) := by decide +kernel
theorem dX11_isSet_8 : decode cX11_isSet 8 = .ok (.if_icmp .gt 7, 3) := by decide +kernel
theorem dX11_isSet_11 : decode cX11_isSet 11 = .ok (.iconst 1, 1) := by decide +kernel
theorem dX11_isSet_12 : decode cX11_isSet 12 = .ok (.goto 4, 3) := by decide +kernel
theorem dX11_isSet_15 : decode cX11_isSet 15 = .ok (.iconst 0, 1) := by decide +kernel
theorem dX11_isSet_16 : decode cX11_isSet 16 = .ok (.ireturn, 1) := by decide +kernel
theorem dX11_isSpace_0 : decode cX11_isSpace 0 = .ok (.iload_n 0, 1) := by decide +kernel
theorem dX11_isSpace_1 : decode cX11_isSpace 1 = .ok (.ifCond .lt 14, 3) := by decide +kernel
theorem dX11_isSpace_4 : decode cX11_isSpace 4 = .ok (.iload_n 0, 1) := by decide +kernel
theorem dX11_isSpace_5 : decode cX11_isSpace 5 = .ok (.sipush 9999, 3) := by decide +kernel
theorem dX11_isSpace_8 : decode cX11_isSpace 8 = .ok (.if_icmp .gt 7, 3) := by decide +kernel
theorem dX11_isSpace_11 : decode cX11_isSpace 11 = .ok (.iconst 1, 1) := by decide +kernel
theorem dX11_isSpace_12 : decode cX11_isSpace 12 = .ok (.goto 4, 3) := by decide +kernel
theorem dX11_isSpace_15 : decode cX11_isSpace 15 = .ok (.iconst 0, 1) := by decide +kernel
theorem dX11_isSpace_16 : decode cX11_isSpace 16 = .ok (.ireturn, 1) := by decide +kernel
theorem dX11_has_0 : decode cX11_has 0 = .ok (.iload_n 0, 1) := by decide +kernel
theorem dX11_has_1 : decode cX11_has 1 = .ok (.iload_n 1, 1) := by decide +kernel
theorem dX11_has_2 : decode cX11_has 2 = .ok (.ishr, 1) := by decide +kernel
theorem dX11_has_3 : decode cX11_has 3 = .ok (.iconst 1, 1) := by decide +kernel
theorem dX11_has_4 : decode cX11_has 4 = .ok (.iand, 1) := by decide +kernel
theorem dX11_has_5 : decode cX11_has 5 = .ok (.ifCond .eq 7, 3) := by decide +kernel
theorem dX11_has_8 : decode cX11_has 8 = .ok (.iconst 1, 1) := by decide +kernel
theorem dX11_has_9 : decode cX11_has 9 = .ok (.goto 4, 3) := by decide +kernel
theorem dX11_has_12 : decode cX11_has 12 = .ok (.iconst 0, 1) := by decide +kernel
theorem dX11_has_13 : decode cX11_has 13 = .ok (.ireturn, 1) := by decide +kernel
theorem dX11_with_0 : decode cX11_with 0 = .ok (.iload_n 0, 1) := by decide +kernel
theorem dX11_with_1 : decode cX11_with 1 = .ok (.iconst 1, 1) := by decide +kernel
theorem dX11_with_2 : decode cX11_with 2 = .ok (.iload_n 1, 1) := by decide +kernel
theorem dX11_with_3 : decode cX11_with 3 = .ok (.ishl, 1) := by decide +kernel
theorem dX11_with_4 : decode cX11_with 4 = .ok (.ior, 1) := by decide +kernel
theorem dX11_with_5 : decode cX11_with 5 = .ok (.ireturn, 1) := by decide +kernel
theorem dX11_without_0 : decode cX11_without 0 = .ok (.iload_n 0, 1) := by decide +kernel
theorem dX11_without_1 : decode cX11_without 1 = .ok (.iconst 1, 1) := by decide +kernel
theorem dX11_without_2 : decode cX11_without 2 = .ok (.iload_n 1, 1) := by decide +kernel
theorem dX11_without_3 : decode cX11_without 3 = .ok (.ishl, 1) := by decide +kernel
theorem dX11_without_4 : decode cX11_without 4 = .ok (.iconst (-1), 1) := by decide +kernel
theorem dX11_without_5 : decode cX11_without 5 = .ok (.ixor, 1) := by decide +kernel
theorem dX11_without_6 : decode cX11_without 6 = .ok (.iand, 1) := by decide +kernel
theorem dX11_without_7 : decode cX11_without 7 = .ok (.ireturn, 1) := by decide +kernel
theorem dX11_hasSlot_0 : decode cX11_hasSlot 0 = .ok (.lload_n 0, 1) := by decide +kernel
theorem dX11_hasSlot_1 : decode cX11_hasSlot 1 = .ok (.iload_n 2, 1) := by decide +kernel
theorem dX11_hasSlot_2 : decode cX11_hasSlot 2 = .ok (.lushr, 1) := by decide +kernel
theorem dX11_hasSlot_3 : decode cX11_hasSlot 3 = .ok (.lconst 1, 1) := by decide +kernel
theorem dX11_hasSlot_4 : decode cX11_hasSlot 4 = .ok (.land, 1) := by decide +kernel
theorem dX11_hasSlot_5 : decode cX11_hasSlot 5 = .ok (.lconst 0, 1) := by decide +kernel
theorem dX11_hasSlot_6 : decode cX11_hasSlot 6 = .ok (.lcmp, 1) := by decide +kernel
theorem dX11_hasSlot_7 : decode cX11_hasSlot 7 = .ok (.ifCond .eq 7, 3) := by decide +kernel
theorem dX11_hasSlot_10 : decode cX11_hasSlot 10 = .ok (.iconst 1, 1) := by decide +kernel
theorem dX11_hasSlot_11 : decode cX11_hasSlot 11 = .ok (.goto 4, 3) := by decide +kernel
theorem dX11_hasSlot_14 : decode cX11_hasSlot 14 = .ok (.iconst 0, 1) := by decide +kernel
theorem dX11_hasSlot_15 : decode cX11_hasSlot 15 = .ok (.ireturn, 1) := by decide +kernel
theorem dX11_quotient_0 : decode cX11_quotient 0 = .ok (.iload_n 1, 1) := by decide +kernel
theorem dX11_quotient_1 : decode cX11_quotient 1 = .ok (.ifCond .le 9, 3) := by decide +kernel
theorem dX11_quotient_4 : decode cX11_quotient 4 = .ok (.iload_n 0, 1) := by decide +kernel
theorem dX11_quotient_5 : decode cX11_quotient 5 = .ok (.iload_n 1, 1) := by decide +kernel
theorem dX11_quotient_6 : decode cX11_quotient 6 = .ok (.idiv, 1) := by decide +kernel
theorem dX11_quotient_7 : decode cX11_quotient 7 = .ok (.goto 4, 3) := by decide +kernel
theorem dX11_quotient_10 : decode cX11_quotient 10 = .ok (.iconst 0, 1) := by decide +kernel
theorem dX11_quotient_11 : decode cX11_quotient 11 = .ok (.ireturn, 1) := by decide +kernel
theorem dX11_roundedUp_0 : decode cX11_roundedUp 0 = .ok (.iload_n 0, 1) := by decide +kernel
theorem dX11_roundedUp_1 : decode cX11_roundedUp 1 = .ok (.iload_n 1, 1) := by decide +kernel
theorem dX11_roundedUp_2 : decode cX11_roundedUp 2 = .ok (.iadd, 1) := by decide +kernel
theorem dX11_roundedUp_3 : decode cX11_roundedUp 3 = .ok (.iconst 1, 1) := by decide +kernel
theorem dX11_roundedUp_4 : decode cX11_roundedUp 4 = .ok (.isub, 1) := by decide +kernel
theorem dX11_roundedUp_5 : decode cX11_roundedUp 5 = .ok (.iload_n 1, 1) := by decide +kernel
theorem dX11_roundedUp_6 : decode cX11_roundedUp 6 = .ok (.invokestatic 423, 3) := by decide +kernel
theorem dX11_roundedUp_9 : decode cX11_roundedUp 9 = .ok (.ireturn, 1) := by decide +kernel
theorem dX11_rest_0 : decode cX11_rest 0 = .ok (.iload_n 1, 1) := by decide +kernel
theorem dX11_rest_1 : decode cX11_rest 1 = .ok (.ifCond .le 9, 3) := by decide +kernel
theorem dX11_rest_4 : decode cX11_rest 4 = .ok (.iload_n 0, 1) := by decide +kernel
theorem dX11_rest_5 : decode cX11_rest 5 = .ok (.iload_n 1, 1) := by decide +kernel
theorem dX11_rest_6 : decode cX11_rest 6 = .ok (.irem, 1) := by decide +kernel
theorem dX11_rest_7 : decode cX11_rest 7 = .ok (.goto 4, 3) := by decide +kernel
theorem dX11_rest_10 : decode cX11_rest 10 = .ok (.iconst 0, 1) := by decide +kernel
theorem dX11_rest_11 : decode cX11_rest 11 = .ok (.ireturn, 1) := by decide +kernel
theorem dX12_init_0 : decode cX12_init 0 = .ok (.aload_n 0, 1) := by decide +kernel
theorem dX12_init_1 : decode cX12_init 1 = .ok (.invokespecial 1, 3) := by decide +kernel
theorem dX12_init_4 : decode cX12_init 4 = .ok (.aload_n 0, 1) := by decide +kernel
theorem dX12_init_5 : decode cX12_init 5 = .ok (.bipush 64, 2) := by decide +kernel
theorem dX12_init_7 : decode cX12_init 7 = .ok (.newarray .boolean, 2) := by decide +kernel
theorem dX12_init_9 : decode cX12_init 9 = .ok (.putfield 7, 3) := by decide +kernel
theorem dX12_init_12 : decode cX12_init 12 = .ok (.aload_n 0, 1) := by decide +kernel
theorem dX12_init_13 : decode cX12_init 13 = .ok (.sipush 256, 3) := by decide +kernel
theorem dX12_init_16 : decode cX12_init 16 = .ok (.newarray .int, 2) := by decide +kernel
theorem dX12_init_18 : decode cX12_init 18 = .ok (.putfield 13, 3) := by decide +kernel
theorem dX12_init_21 : decode cX12_init 21 = .ok (.aload_n 0, 1) := by decide +kernel
theorem dX12_init_22 : decode cX12_init 22 = .ok (.iconst 4, 1) := by decide +kernel
theorem dX12_init_23 : decode cX12_init 23 = .ok (.putfield 17, 3) := by decide +kernel
theorem dX12_init_26 : decode cX12_init 26 = .ok (.aload_n 0, 1) := by decide +kernel
theorem dX12_init_27 : decode cX12_init 27 = .ok (.bipush 8, 2) := by decide +kernel
theorem dX12_init_29 : decode cX12_init 29 = .ok (.newarray .int, 2) := by decide +kernel
theorem dX12_init_31 : decode cX12_init 31 = .ok (.putfield 21, 3) := by decide +kernel
theorem dX12_init_34 : decode cX12_init 34 = .ok (.aload_n 0, 1) := by decide +kernel
theorem dX12_init_35 : decode cX12_init 35 = .ok (.bipush 8, 2) := by decide +kernel
theorem dX12_init_37 : decode cX12_init 37 = .ok (.newarray .boolean, 2) := by decide +kernel
theorem dX12_init_39 : decode cX12_init 39 = .ok (.putfield 24, 3) := by decide +kernel
theorem dX12_init_42 : decode cX12_init 42 = .ok (.aload_n 0, 1) := by decide +kernel
theorem dX12_init_43 : decode cX12_init 43 = .ok (.bipush 8, 2) := by decide +kernel
theorem dX12_init_45 : decode cX12_init 45 = .ok (.newarray .int, 2) := by decide +kernel
theorem dX12_init_47 : decode cX12_init 47 = .ok (.putfield 27, 3) := by decide +kernel
theorem dX12_init_50 : decode cX12_init 50 = .ok (.aload_n 0, 1) := by decide +kernel
theorem dX12_init_51 : decode cX12_init 51 = .ok (.sipush 512, 3) := by decide +kernel
theorem dX12_init_54 : decode cX12_init 54 = .ok (.newarray .int, 2) := by decide +kernel
theorem dX12_init_56 : decode cX12_init 56 = .ok (.putfield 30, 3) := by decide +kernel
theorem dX12_init_59 : decode cX12_init 59 = .ok (.aload_n 0, 1) := by decide +kernel
theorem dX12_init_60 : decode cX12_init 60 = .ok (.bipush 8, 2) := by decide +kernel
theorem dX12_init_62 : decode cX12_init 62 = .ok (.newarray .int, 2) := by decide +kernel
theorem dX12_init_64 : decode cX12_init 64 = .ok (.putfield 33, 3) := by decide +kernel
theorem dX12_init_67 : decode cX12_init 67 = .ok (.aload_n 0, 1) := by decide +kernel
theorem dX12_init_68 : decode cX12_init 68 = .ok (.sipush 512, 3) := by decide +kernel
theorem dX12_init_71 : decode cX12_init 71 = .ok (.newarray .int, 2) := by decide +kernel
theorem dX12_init_73 : decode cX12_init 73 = .ok (.putfield 36, 3) := by decide +kernel
theorem dX12_init_76 : decode cX12_init 76 = .ok (.aload_n 0, 1) := by decide +kernel
theorem dX12_init_77 : decode cX12_init 77 = .ok (.bipush 8, 2) := by decide +kernel
theorem dX12_init_79 : decode cX12_init 79 = .ok (.newarray .int, 2) := by decide +kernel
theorem dX12_init_81 : decode cX12_init 81 = .ok (.putfield 39, 3) := by decide +kernel
theorem dX12_init_84 : decode cX12_init 84 = .ok (.aload_n 0, 1) := by decide +kernel
theorem dX12_init_85 : decode cX12_init 85 = .ok (.bipush 60, 2) := by decide +kernel
theorem dX12_init_87 : decode cX12_init 87 = .ok (.newarray .byte, 2) := by decide +kernel
theorem dX12_init_89 : decode cX12_init 89 = .ok (.putfield 42, 3) := by decide +kernel
theorem dX12_init_92 : decode cX12_init 92 = .ok (.aload_n 0, 1) := by decide +kernel
theorem dX12_init_93 : decode cX12_init 93 = .ok (.bipush 64, 2) := by decide +kernel
theorem dX12_init_95 : decode cX12_init 95 = .ok (.newarray .int, 2) := by decide +kernel
theorem dX12_init_97 : decode cX12_init 97 = .ok (.putfield 46, 3) := by decide +kernel
theorem dX12_init_100 : decode cX12_init 100 = .ok (.aload_n 0, 1) := by decide +kernel
theorem dX12_init_101 : decode cX12_init 101 = .ok (.bipush 8, 2) := by decide +kernel
theorem dX12_init_103 : decode cX12_init 103 = .ok (.newarray .int, 2) := by decide +kernel
theorem dX12_init_105 : decode cX12_init 105 = .ok (.putfield 49, 3) := by decide +kernel
theorem dX12_init_108 : decode cX12_init 108 = .ok (.aload_n 0, 1) := by decide +kernel
theorem dX12_init_109 : decode cX12_init 109 = .ok (.bipush 8, 2) := by decide +kernel
theorem dX12_init_111 : decode cX12_init 111 = .ok (.newarray .int, 2) := by decide +kernel
theorem dX12_init_113 : decode cX12_init 113 = .ok (.putfield 52, 3) := by decide +kernel
theorem dX12_init_116 : decode cX12_init 116 = .ok (.aload_n 0, 1) := by decide +kernel
theorem dX12_init_117 : decode cX12_init 117 = .ok (.bipush 8, 2) := by decide +kernel
theorem dX12_init_119 : decode cX12_init 119 = .ok (.newarray .int, 2) := by decide +kernel
theorem dX12_init_121 : decode cX12_init 121 = .ok (.putfield 55, 3) := by decide +kernel
theorem dX12_init_124 : decode cX12_init 124 = .ok (.aload_n 0, 1) := by decide +kernel
theorem dX12_init_125 : decode cX12_init 125 = .ok (.iconst 4, 1) := by decide +kernel
theorem dX12_init_126 : decode cX12_init 126 = .ok (.newarray .boolean, 2) := by decide +kernel
theorem dX12_init_128 : decode cX12_init 128 = .ok (.putfield 58, 3) := by decide +kernel
theorem dX12_init_131 : decode cX12_init 131 = .ok (.aload_n 0, 1) := by decide +kernel
theorem dX12_init_132 : decode cX12_init 132 = .ok (.bipush 48, 2) := by decide +kernel
theorem dX12_init_134 : decode cX12_init 134 = .ok (.newarray .int, 2) := by decide +kernel
theorem dX12_init_136 : decode cX12_init 136 = .ok (.putfield 61, 3) := by decide +kernel
theorem dX12_init_139 : decode cX12_init 139 = .ok (.aload_n 0, 1) := by decide +kernel
theorem dX12_init_140 : decode cX12_init 140 = .ok (.sipush 192, 3) := by decide +kernel
theorem dX12_init_143 : decode cX12_init 143 = .ok (.newarray .boolean, 2) := by decide +kernel
theorem dX12_init_145 : decode cX12_init 145 = .ok (.putfield 64, 3) := by decide +kernel
theorem dX12_init_148 : decode cX12_init 148 = .ok (.aload_n 0, 1) := by decide +kernel
theorem dX12_init_149 : decode cX12_init 149 = .ok (.sipush 768, 3) := by decide +kernel
theorem dX12_init_152 : decode cX12_init 152 = .ok (.newarray .int, 2) := by decide +kernel
theorem dX12_init_154 : decode cX12_init 154 = .ok (.putfield 67, 3) := by decide +kernel
theorem dX12_init_157 : decode cX12_init 157 = .ok (.aload_n 0, 1) := by decide +kernel
theorem dX12_init_158 : decode cX12_init 158 = .ok (.bipush 8, 2) := by decide +kernel
theorem dX12_init_160 : decode cX12_init 160 = .ok (.newarray .int, 2) := by decide +kernel
theorem dX12_init_162 : decode cX12_init 162 = .ok (.putfield 70, 3) := by decide +kernel
theorem dX12_init_165 : decode cX12_init 165 = .ok (.aload_n 0, 1) := by decide +kernel
theorem dX12_init_166 : decode cX12_init 166 = .ok (.sipush 648, 3) := by decide +kernel
theorem dX12_init_169 : decode cX12_init 169 = .ok (.newarray .int, 2) := by decide +kernel
theorem dX12_init_171 : decode cX12_init 171 = .ok (.putfield 73, 3) := by decide +kernel
theorem dX12_init_174 : decode cX12_init 174 = .ok (.aload_n 0, 1) := by decide +kernel
theorem dX12_init_175 : decode cX12_init 175 = .ok (.bipush 8, 2) := by decide +kernel
theorem dX12_init_177 : decode cX12_init 177 = .ok (.newarray .int, 2) := by decide +kernel
theorem dX12_init_179 : decode cX12_init 179 = .ok (.putfield 76, 3) := by decide +kernel
theorem dX12_init_182 : decode cX12_init 182 = .ok (.aload_n 0, 1) := by decide +kernel
theorem dX12_init_183 : decode cX12_init 183 = .ok (.bipush 64, 2) := by decide +kernel
theorem dX12_init_185 : decode cX12_init 185 = .ok (.newarray .int, 2) := by decide +kernel
theorem dX12_init_187 : decode cX12_init 187 = .ok (.putfield 79, 3) := by decide +kernel
theorem dX12_init_190 : decode cX12_init 190 = .ok (.return_, 1) := by decide +kernel
theorem dX12_in_0 : decode cX12_in 0 = .ok (.iload_n 0, 1) := by decide +kernel
theorem dX12_in_1 : decode cX12_in 1 = .ok (.iload_n 1, 1) := by decide +kernel
theorem dX12_in_2 : decode cX12_in 2 = .ok (.if_icmp .lt 12, 3) := by decide +kernel
theorem dX12_in_5 : decode cX12_in 5 = .ok (.iload_n 0, 1) := by decide +kernel
theorem dX12_in_6 : decode cX12_in 6 = .ok (.iload_n 2, 1) := by decide +kernel
theorem dX12_in_7 : decode cX12_in 7 = .ok (.if_icmp .gt 7, 3) := by decide +kernel
theorem dX12_in_10 : decode cX12_in 10 = .ok (.iconst 1, 1) := by decide +kernel
theorem dX12_in_11 : decode cX12_in 11 = .ok (.goto 4, 3) := by decide +kernel
theorem dX12_in_14 : decode cX12_in 14 = .ok (.iconst 0, 1) := by decide +kernel
theorem dX12_in_15 : decode cX12_in 15 = .ok (.ireturn, 1) := by decide +kernel
theorem dX12_isNumber_0 : decode cX12_isNumber 0 = .ok (.iload_n 0, 1) := by decide +kernel
theorem dX12_isNumber_1 : decode cX12_isNumber 1 = .ok (.iconst 0, 1) := by decide +kernel
theorem dX12_isNumber_2 : decode cX12_isNumber 2 = .ok (.bipush 99, 2) := by decide +kernel
theorem dX12_isNumber_4 : decode cX12_isNumber 4 = .ok (.invokestatic 82, 3) := by decide +kernel
theorem dX12_isNumber_7 : decode cX12_isNumber 7 = .ok (.ireturn, 1) := by decide +kernel
theorem dX12_isSlot_0 : decode cX12_isSlot 0 = .ok (.iload_n 1, 1) := by decide +kernel
theorem dX12_isSlot_1 : decode cX12_isSlot 1 = .ok (.iconst 0, 1) := by decide +kernel
theorem dX12_isSlot_2 : decode cX12_isSlot 2 = .ok (.bipush 63, 2) := by decide +kernel
theorem dX12_isSlot_4 : decode cX12_isSlot 4 = .ok (.invokestatic 82, 3) := by decide +kernel
theorem dX12_isSlot_7 : decode cX12_isSlot 7 = .ok (.ifCond .eq 16, 3) := by decide +kernel
theorem dX12_isSlot_10 : decode cX12_isSlot 10 = .ok (.aload_n 0, 1) := by decide +kernel
theorem dX12_isSlot_11 : decode cX12_isSlot 11 = .ok (.getfield 7, 3) := by decide +kernel
theorem dX12_isSlot_14 : decode cX12_isSlot 14 = .ok (.iload_n 1, 1) := by decide +kernel
theorem dX12_isSlot_15 : decode cX12_isSlot 15 = .ok (.baload, 1) := by decide +kernel
theorem dX12_isSlot_16 : decode cX12_isSlot 16 = .ok (.ifCond .eq 7, 3) := by decide +kernel
theorem dX12_isSlot_19 : decode cX12_isSlot 19 = .ok (.iconst 1, 1) := by decide +kernel
theorem dX12_isSlot_20 : decode cX12_isSlot 20 = .ok (.goto 4, 3) := by decide +kernel
theorem dX12_isSlot_23 : decode cX12_isSlot 23 = .ok (.iconst 0, 1) := by decide +kernel
theorem dX12_isSlot_24 : decode cX12_isSlot 24 = .ok (.ireturn, 1) := by decide +kernel
theorem dX12_keySize_0 : decode cX12_keySize 0 = .ok (.iload_n 0, 1) := by decide +kernel
theorem dX12_keySize_1 : decode cX12_keySize 1 = .ok (.iconst 5, 1) := by decide +kernel
theorem dX12_keySize_2 : decode cX12_keySize 2 = .ok (.if_icmp .ge 7, 3) := by decide +kernel
theorem dX12_keySize_5 : decode cX12_keySize 5 = .ok (.iconst 1, 1) := by decide +kernel
theorem dX12_keySize_6 : decode cX12_keySize 6 = .ok (.goto 14, 3) := by decide +kernel
theorem dX12_keySize_9 : decode cX12_keySize 9 = .ok (.iload_n 0, 1) := by decide +kernel
theorem dX12_keySize_10 : decode cX12_keySize 10 = .ok (.bipush 25, 2) := by decide +kernel
theorem dX12_keySize_12 : decode cX12_keySize 12 = .ok (.if_icmp .ge 7, 3) := by decide +kernel
theorem dX12_keySize_15 : decode cX12_keySize 15 = .ok (.iconst 2, 1) := by decide +kernel
theorem dX12_keySize_16 : decode cX12_keySize 16 = .ok (.goto 4, 3) := by decide +kernel
theorem dX12_keySize_19 : decode cX12_keySize 19 = .ok (.iconst 3, 1) := by decide +kernel
theorem dX12_keySize_20 : decode cX12_keySize 20 = .ok (.ireturn, 1) := by decide +kernel
theorem dX12_keyAt_0 : decode cX12_keyAt 0 = .ok (.iload_n 0, 1) := by decide +kernel
theorem dX12_keyAt_1 : decode cX12_keyAt 1 = .ok (.istore_n 2, 1) := by decide +kernel
theorem dX12_keyAt_2 : decode cX12_keyAt 2 = .ok (.iload_n 0, 1) := by decide +kernel
theorem dX12_keyAt_3 : decode cX12_keyAt 3 = .ok (.invokestatic 86, 3) := by decide +kernel
theorem dX12_keyAt_6 : decode cX12_keyAt 6 = .ok (.iconst 1, 1) := by decide +kernel
theorem dX12_keyAt_7 : decode cX12_keyAt 7 = .ok (.isub, 1) := by decide +kernel
theorem dX12_keyAt_8 : decode cX12_keyAt 8 = .ok (.istore_n 3, 1) := by decide +kernel
theorem dX12_keyAt_9 : decode cX12_keyAt 9 = .ok (.iload_n 3, 1) := by decide +kernel
theorem dX12_keyAt_10 : decode cX12_keyAt 10 = .ok (.iload_n 1, 1) := by decide +kernel
theorem dX12_keyAt_11 : decode cX12_keyAt 11 = .ok (.if_icmp .le 13, 3) := by decide +kernel
theorem dX12_keyAt_14 : decode cX12_keyAt 14 = .ok (.iload_n 2, 1) := by decide +kernel
theorem dX12_keyAt_15 : decode cX12_keyAt 15 = .ok (.iconst 5, 1) := by decide +kernel
theorem dX12_keyAt_16 : decode cX12_keyAt 16 = .ok (.idiv, 1) := by decide +kernel
theorem dX12_keyAt_17 : decode cX12_keyAt 17 = .ok (.istore_n 2, 1) := by decide +kernel
theorem dX12_keyAt_18 : decode cX12_keyAt 18 = .ok (.iinc 3 (-1), 3) := by decide +kernel
theorem dX12_keyAt_21 : decode cX12_keyAt 21 = .ok (.goto (-12), 3) := by decide +kernel
theorem dX12_keyAt_24 : decode cX12_keyAt 24 = .ok (.iload_n 2, 1) := by decide +kernel
theorem dX12_keyAt_25 : decode cX12_keyAt 25 = .ok (.iconst 5, 1) := by decide +kernel
theorem dX12_keyAt_26 : decode cX12_keyAt 26 = .ok (.irem, 1) := by decide +kernel
theorem dX12_keyAt_27 : decode cX12_keyAt 27 = .ok (.iconst 1, 1) := by decide +kernel
theorem dX12_keyAt_28 : decode cX12_keyAt 28 = .ok (.isub, 1) := by decide +kernel
theorem dX12_keyAt_29 : decode cX12_keyAt 29 = .ok (.ireturn, 1) := by decide +kernel
theorem dX12_isInKey_0 : decode cX12_isInKey 0 = .ok (.iconst 0, 1) := by decide +kernel
theorem dX12_isInKey_1 : decode cX12_isInKey 1 = .ok (.istore_n 2, 1) := by decide +kernel
theorem dX12_isInKey_2 : decode cX12_isInKey 2 = .ok (.iload_n 2, 1) := by decide +kernel
theorem dX12_isInKey_3 : decode cX12_isInKey 3 = .ok (.iload_n 0, 1) := by decide +kernel
theorem dX12_isInKey_4 : decode cX12_isInKey 4 = .ok (.invokestatic 86, 3) := by decide +kernel
theorem dX12_isInKey_7 : decode cX12_isInKey 7 = .ok (.if_icmp .ge 20, 3) := by decide +kernel
theorem dX12_isInKey_10 : decode cX12_isInKey 10 = .ok (.iload_n 0, 1) := by decide +kernel
theorem dX12_isInKey_11 : decode cX12_isInKey 11 = .ok (.iload_n 2, 1) := by decide +kernel
theorem dX12_isInKey_12 : decode cX12_isInKey 12 = .ok (.invokestatic 90, 3) := by decide +kernel
theorem dX12_isInKey_15 : decode cX12_isInKey 15 = .ok (.iload_n 1, 1) := by decide +kernel
theorem dX12_isInKey_16 : decode cX12_isInKey 16 = .ok (.if_icmp .ne 5, 3) := by decide +kernel
theorem dX12_isInKey_19 : decode cX12_isInKey 19 = .ok (.iconst 1, 1) := by decide +kernel
theorem dX12_isInKey_20 : decode cX12_isInKey 20 = .ok (.ireturn, 1) := by decide +kernel
theorem dX12_isInKey_21 : decode cX12_isInKey 21 = .ok (.iinc 2 1, 3) := by decide +kernel
theorem dX12_isInKey_24 : decode cX12_isInKey 24 = .ok (.goto (-22), 3) := by decide +kernel
theorem dX12_isInKey_27 : decode cX12_isInKey 27 = .ok (.iconst 0, 1) := by decide +kernel
theorem dX12_isInKey_28 : decode cX12_isInKey 28 = .ok (.ireturn, 1) := by decide +kernel
theorem dX12_isKey_0 : decode cX12_isKey 0 = .ok (.iload_n 0, 1) := by decide +kernel
theorem dX12_isKey_1 : decode cX12_isKey 1 = .ok (.iconst 1, 1) := by decide +kernel
theorem dX12_isKey_2 : decode cX12_isKey 2 = .ok (.bipush 124, 2) := by decide +kernel
theorem dX12_isKey_4 : decode cX12_isKey 4 = .ok (.invokestatic 82, 3) := by decide +kernel
theorem dX12_isKey_7 : decode cX12_isKey 7 = .ok (.ifCond .ne 5, 3) := by decide +kernel
theorem dX12_isKey_10 : decode cX12_isKey 10 = .ok (.iconst 0, 1) := by decide +kernel
theorem dX12_isKey_11 : decode cX12_isKey 11 = .ok (.ireturn, 1) := by decide +kernel
theorem dX12_isKey_12 : decode cX12_isKey 12 = .ok (.iconst 1, 1) := by decide +kernel
theorem dX12_isKey_13 : decode cX12_isKey 13 = .ok (.istore_n 1, 1) := by decide +kernel
theorem dX12_isKey_14 : decode cX12_isKey 14 = .ok (.iconst 0, 1) := by decide +kernel
theorem dX12_isKey_15 : decode cX12_isKey 15 = .ok (.istore_n 2, 1) := by decide +kernel
theorem dX12_isKey_16 : decode cX12_isKey 16 = .ok (.iconst 0, 1) := by decide +kernel
theorem dX12_isKey_17 : decode cX12_isKey 17 = .ok (.istore_n 3, 1) := by decide +kernel
theorem dX12_isKey_18 : decode cX12_isKey 18 = .ok (.iload_n 3, 1) := by decide +kernel
theorem dX12_isKey_19 : decode cX12_isKey 19 = .ok (.iload_n 0, 1) := by decide +kernel
theorem dX12_isKey_20 : decode cX12_isKey 20 = .ok (.invokestatic 86, 3) := by decide +kernel
theorem dX12_isKey_23 : decode cX12_isKey 23 = .ok (.if_icmp .ge 56, 3) := by decide +kernel
theorem dX12_isKey_26 : decode cX12_isKey 26 = .ok (.iload_n 0, 1) := by decide +kernel
theorem dX12_isKey_27 : decode cX12_isKey 27 = .ok (.iload_n 3, 1) := by decide +kernel
theorem dX12_isKey_28 : decode cX12_isKey 28 = .ok (.invokestatic 90, 3) := by decide +kernel
theorem dX12_isKey_31 : decode cX12_isKey 31 = .ok (.istore 4, 2) := by decide +kernel
theorem dX12_isKey_33 : decode cX12_isKey 33 = .ok (.iload_n 1, 1) := by decide +kernel
theorem dX12_isKey_34 : decode cX12_isKey 34 = .ok (.ifCond .eq 21, 3) := by decide +kernel
theorem dX12_isKey_37 : decode cX12_isKey 37 = .ok (.iload 4, 2) := by decide +kernel
theorem dX12_isKey_39 : decode cX12_isKey 39 = .ok (.ifCond .lt 16, 3) := by decide +kernel
theorem dX12_isKey_42 : decode cX12_isKey 42 = .ok (.iload_n 2, 1) := by decide +kernel
theorem dX12_isKey_43 : decode cX12_isKey 43 = .ok (.iload 4, 2) := by decide +kernel
theorem dX12_isKey_45 : decode cX12_isKey 45 = .ok (.ishr, 1) := by decide +kernel
theorem dX12_isKey_46 : decode cX12_isKey 46 = .ok (.iconst 1, 1) := by decide +kernel
theorem dX12_isKey_47 : decode cX12_isKey 47 = .ok (.iand, 1) := by decide +kernel
theorem dX12_isKey_48 : decode cX12_isKey 48 = .ok (.ifCond .ne 7, 3) := by decide +kernel
theorem dX12_isKey_51 : decode cX12_isKey 51 = .ok (.iconst 1, 1) := by decide +kernel
theorem dX12_isKey_52 : decode cX12_isKey 52 = .ok (.goto 4, 3) := by decide +kernel
theorem dX12_isKey_55 : decode cX12_isKey 55 = .ok (.iconst 0, 1) := by decide +kernel
theorem dX12_isKey_56 : decode cX12_isKey 56 = .ok (.istore_n 1, 1) := by decide +kernel
theorem dX12_isKey_57 : decode cX12_isKey 57 = .ok (.iload_n 2, 1) := by decide +kernel
theorem dX12_isKey_58 : decode cX12_isKey 58 = .ok (.iload 4, 2) := by decide +kernel
theorem dX12_isKey_60 : decode cX12_isKey 60 = .ok (.ifCond .ge 7, 3) := by decide +kernel
theorem dX12_isKey_63 : decode cX12_isKey 63 = .ok (.iconst 0, 1) := by decide +kernel
theorem dX12_isKey_64 : decode cX12_isKey 64 = .ok (.goto 7, 3) := by decide +kernel
theorem dX12_isKey_67 : decode cX12_isKey 67 = .ok (.iconst 1, 1) := by decide +kernel
theorem dX12_isKey_68 : decode cX12_isKey 68 = .ok (.iload 4, 2) := by decide +kernel
theorem dX12_isKey_70 : decode cX12_isKey 70 = .ok (.ishl, 1) := by decide +kernel
theorem dX12_isKey_71 : decode cX12_isKey 71 = .ok (.ior, 1) := by decide +kernel
theorem dX12_isKey_72 : decode cX12_isKey 72 = .ok (.istore_n 2, 1) := by decide +kernel
theorem dX12_isKey_73 : decode cX12_isKey 73 = .ok (.iinc 3 1, 3) := by decide +kernel
theorem dX12_isKey_76 : decode cX12_isKey 76 = .ok (.goto (-58), 3) := by decide +kernel
theorem dX12_isKey_79 : decode cX12_isKey 79 = .ok (.iload_n 1, 1) := by decide +kernel
theorem dX12_isKey_80 : decode cX12_isKey 80 = .ok (.ireturn, 1) := by decide +kernel
theorem dX12_roomOf_0 : decode cX12_roomOf 0 = .ok (.iload_n 0, 1) := by decide +kernel
theorem dX12_roomOf_1 : decode cX12_roomOf 1 = .ok (.invokestatic 86, 3) := by decide +kernel
theorem dX12_roomOf_4 : decode cX12_roomOf 4 = .ok (.iconst 1, 1) := by decide +kernel
theorem dX12_roomOf_5 : decode cX12_roomOf 5 = .ok (.if_icmp .ne 8, 3) := by decide +kernel
theorem dX12_roomOf_8 : decode cX12_roomOf 8 = .ok (.bipush 6, 2) := by decide +kernel
theorem dX12_roomOf_10 : decode cX12_roomOf 10 = .ok (.goto 16, 3) := by decide +kernel
theorem dX12_roomOf_13 : decode cX12_roomOf 13 = .ok (.iload_n 0, 1) := by decide +kernel
theorem dX12_roomOf_14 : decode cX12_roomOf 14 = .ok (.invokestatic 86, 3) := by decide +kernel
theorem dX12_roomOf_17 : decode cX12_roomOf 17 = .ok (.iconst 2, 1) := by decide +kernel
theorem dX12_roomOf_18 : decode cX12_roomOf 18 = .ok (.if_icmp .ne 7, 3) := by decide +kernel
theorem dX12_roomOf_21 : decode cX12_roomOf 21 = .ok (.iconst 4, 1) := by decide +kernel
theorem dX12_roomOf_22 : decode cX12_roomOf 22 = .ok (.goto 4, 3) := by decide +kernel
theorem dX12_roomOf_25 : decode cX12_roomOf 25 = .ok (.iconst 3, 1) := by decide +kernel
theorem dX12_roomOf_26 : decode cX12_roomOf 26 = .ok (.ireturn, 1) := by decide +kernel
theorem dX12_isAhead_0 : decode cX12_isAhead 0 = .ok (.iconst 0, 1) := by decide +kernel
theorem dX12_isAhead_1 : decode cX12_isAhead 1 = .ok (.istore 4, 2) := by decide +kernel
theorem dX12_isAhead_3 : decode cX12_isAhead 3 = .ok (.iload 4, 2) := by decide +kernel
theorem dX12_isAhead_5 : decode cX12_isAhead 5 = .ok (.iload_n 1, 1) := by decide +kernel
theorem dX12_isAhead_6 : decode cX12_isAhead 6 = .ok (.invokestatic 86, 3) := by decide +kernel
theorem dX12_isAhead_9 : decode cX12_isAhead 9 = .ok (.if_icmp .ge 63, 3) := by decide +kernel
theorem dX12_isAhead_12 : decode cX12_isAhead 12 = .ok (.aload_n 0, 1) := by decide +kernel
theorem dX12_isAhead_13 : decode cX12_isAhead 13 = .ok (.getfield 13, 3) := by decide +kernel
theorem dX12_isAhead_16 : decode cX12_isAhead 16 = .ok (.iconst 4, 1) := by decide +kernel
theorem dX12_isAhead_17 : decode cX12_isAhead 17 = .ok (.iload_n 2, 1) := by decide +kernel
theorem dX12_isAhead_18 : decode cX12_isAhead 18 = .ok (.imul, 1) := by decide +kernel
theorem dX12_isAhead_19 : decode cX12_isAhead 19 = .ok (.iload_n 1, 1) := by decide +kernel
theorem dX12_isAhead_20 : decode cX12_isAhead 20 = .ok (.iload 4, 2) := by decide +kernel
theorem dX12_isAhead_22 : decode cX12_isAhead 22 = .ok (.invokestatic 90, 3) := by decide +kernel
theorem dX12_isAhead_25 : decode cX12_isAhead 25 = .ok (.iadd, 1) := by decide +kernel
theorem dX12_isAhead_26 : decode cX12_isAhead 26 = .ok (.iaload, 1) := by decide +kernel
theorem dX12_isAhead_27 : decode cX12_isAhead 27 = .ok (.istore 5, 2) := by decide +kernel
theorem dX12_isAhead_29 : decode cX12_isAhead 29 = .ok (.aload_n 0, 1) := by decide +kernel
theorem dX12_isAhead_30 : decode cX12_isAhead 30 = .ok (.getfield 13, 3) := by decide +kernel
theorem dX12_isAhead_33 : decode cX12_isAhead 33 = .ok (.iconst 4, 1) := by decide +kernel
theorem dX12_isAhead_34 : decode cX12_isAhead 34 = .ok (.iload_n 3, 1) := by decide +kernel
theorem dX12_isAhead_35 : decode cX12_isAhead 35 = .ok (.imul, 1) := by decide +kernel
theorem dX12_isAhead_36 : decode cX12_isAhead 36 = .ok (.iload_n 1, 1) := by decide +kernel
theorem dX12_isAhead_37 : decode cX12_isAhead 37 = .ok (.iload 4, 2) := by decide +kernel
theorem dX12_isAhead_39 : decode cX12_isAhead 39 = .ok (.invokestatic 90, 3) := by decide +kernel
theorem dX12_isAhead_42 : decode cX12_isAhead 42 = .ok (.iadd, 1) := by decide +kernel
theorem dX12_isAhead_43 : decode cX12_isAhead 43 = .ok (.iaload, 1) := by decide +kernel
theorem dX12_isAhead_44 : decode cX12_isAhead 44 = .ok (.istore 6, 2) := by decide +kernel
theorem dX12_isAhead_46 : decode cX12_isAhead 46 = .ok (.iload 5, 2) := by decide +kernel
theorem dX12_isAhead_48 : decode cX12_isAhead 48 = .ok (.iload 6, 2) := by decide +kernel
theorem dX12_isAhead_50 : decode cX12_isAhead 50 = .ok (.if_icmp .eq 16, 3) := by decide +kernel
theorem dX12_isAhead_53 : decode cX12_isAhead 53 = .ok (.iload 5, 2) := by decide +kernel
theorem dX12_isAhead_55 : decode cX12_isAhead 55 = .ok (.iload 6, 2) := by decide +kernel
theorem dX12_isAhead_57 : decode cX12_isAhead 57 = .ok (.if_icmp .ge 7, 3) := by decide +kernel
theorem dX12_isAhead_60 : decode cX12_isAhead 60 = .ok (.iconst 1, 1) := by decide +kernel
theorem dX12_isAhead_61 : decode cX12_isAhead 61 = .ok (.goto 4, 3) := by decide +kernel
theorem dX12_isAhead_64 : decode cX12_isAhead 64 = .ok (.iconst 0, 1) := by decide +kernel
theorem dX12_isAhead_65 : decode cX12_isAhead 65 = .ok (.ireturn, 1) := by decide +kernel
theorem dX12_isAhead_66 : decode cX12_isAhead 66 = .ok (.iinc 4 1, 3) := by decide +kernel
theorem dX12_isAhead_69 : decode cX12_isAhead 69 = .ok (.goto (-66), 3) := by decide +kernel
theorem dX12_isAhead_72 : decode cX12_isAhead 72 = .ok (.iload_n 2, 1) := by decide +kernel
theorem dX12_isAhead_73 : decode cX12_isAhead 73 = .ok (.iload_n 3, 1) := by decide +kernel
theorem dX12_isAhead_74 : decode cX12_isAhead 74 = .ok (.if_icmp .ge 7, 3) := by decide +kernel
theorem dX12_isAhead_77 : decode cX12_isAhead 77 = .ok (.iconst 1, 1) := by decide +kernel
theorem dX12_isAhead_78 : decode cX12_isAhead 78 = .ok (.goto 4, 3) := by decide +kernel
theorem dX12_isAhead_81 : decode cX12_isAhead 81 = .ok (.iconst 0, 1) := by decide +kernel
theorem dX12_isAhead_82 : decode cX12_isAhead 82 = .ok (.ireturn, 1) := by decide +kernel
theorem dX12_isOrder_0 : decode cX12_isOrder 0 = .ok (.iload_n 1, 1) := by decide +kernel
theorem dX12_isOrder_1 : decode cX12_isOrder 1 = .ok (.iconst 0, 1) := by decide +kernel
theorem dX12_isOrder_2 : decode cX12_isOrder 2 = .ok (.aload_n 0, 1) := by decide +kernel
theorem dX12_isOrder_3 : decode cX12_isOrder 3 = .ok (.getfield 94, 3) := by decide +kernel
theorem dX12_isOrder_6 : decode cX12_isOrder 6 = .ok (.iconst 1, 1) := by decide +kernel
theorem dX12_isOrder_7 : decode cX12_isOrder 7 = .ok (.isub, 1) := by decide +kernel
theorem dX12_isOrder_8 : decode cX12_isOrder 8 = .ok (.invokestatic 82, 3) := by decide +kernel
theorem dX12_isOrder_11 : decode cX12_isOrder 11 = .ok (.ifCond .eq 16, 3) := by decide +kernel
theorem dX12_isOrder_14 : decode cX12_isOrder 14 = .ok (.aload_n 0, 1) := by decide +kernel
theorem dX12_isOrder_15 : decode cX12_isOrder 15 = .ok (.getfield 24, 3) := by decide +kernel
theorem dX12_isOrder_18 : decode cX12_isOrder 18 = .ok (.iload_n 1, 1) := by decide +kernel
theorem dX12_isOrder_19 : decode cX12_isOrder 19 = .ok (.baload, 1) := by decide +kernel
theorem dX12_isOrder_20 : decode cX12_isOrder 20 = .ok (.ifCond .ne 7, 3) := by decide +kernel
theorem dX12_isOrder_23 : decode cX12_isOrder 23 = .ok (.iconst 1, 1) := by decide +kernel
theorem dX12_isOrder_24 : decode cX12_isOrder 24 = .ok (.goto 4, 3) := by decide +kernel
theorem dX12_isOrder_27 : decode cX12_isOrder 27 = .ok (.iconst 0, 1) := by decide +kernel
theorem dX12_isOrder_28 : decode cX12_isOrder 28 = .ok (.ireturn, 1) := by decide +kernel
theorem dX12_packOne_0 : decode cX12_packOne 0 = .ok (.iconst 0, 1) := by decide +kernel
theorem dX12_packOne_1 : decode cX12_packOne 1 = .ok (.istore_n 2, 1) := by decide +kernel
theorem dX12_packOne_2 : decode cX12_packOne 2 = .ok (.iconst 0, 1) := by decide +kernel
theorem dX12_packOne_3 : decode cX12_packOne 3 = .ok (.istore_n 3, 1) := by decide +kernel
theorem dX12_packOne_4 : decode cX12_packOne 4 = .ok (.iload_n 3, 1) := by decide +kernel
theorem dX12_packOne_5 : decode cX12_packOne 5 = .ok (.bipush 64, 2) := by decide +kernel
theorem dX12_packOne_7 : decode cX12_packOne 7 = .ok (.if_icmp .ge 102, 3) := by decide +kernel
theorem dX12_packOne_10 : decode cX12_packOne 10 = .ok (.aload_n 0, 1) := by decide +kernel
theorem dX12_packOne_11 : decode cX12_packOne 11 = .ok (.getfield 7, 3) := by decide +kernel
theorem dX12_packOne_14 : decode cX12_packOne 14 = .ok (.iload_n 3, 1) := by decide +kernel
theorem dX12_packOne_15 : decode cX12_packOne 15 = .ok (.baload, 1) := by decide +kernel
theorem dX12_packOne_16 : decode cX12_packOne 16 = .ok (.ifCond .eq 87, 3) := by decide +kernel
theorem dX12_packOne_19 : decode cX12_packOne 19 = .ok (.iload_n 2, 1) := by decide +kernel
theorem dX12_packOne_20 : decode cX12_packOne 20 = .ok (.istore 4, 2) := by decide +kernel
theorem dX12_packOne_22 : decode cX12_packOne 22 = .ok (.iload 4, 2) := by decide +kernel
theorem dX12_packOne_24 : decode cX12_packOne 24 = .ok (.ifCond .le 63, 3) := by decide +kernel
theorem dX12_packOne_27 : decode cX12_packOne 27 = .ok (.aload_n 0, 1) := by decide +kernel
theorem dX12_packOne_28 : decode cX12_packOne 28 = .ok (.aload_n 0, 1) := by decide +kernel
theorem dX12_packOne_29 : decode cX12_packOne 29 = .ok (.getfield 21, 3) := by decide +kernel
theorem dX12_packOne_32 : decode cX12_packOne 32 = .ok (.iload_n 1, 1) := by decide +kernel
theorem dX12_packOne_33 : decode cX12_packOne 33 = .ok (.iaload, 1) := by decide +kernel
theorem dX12_packOne_34 : decode cX12_packOne 34 = .ok (.iload_n 3, 1) := by decide +kernel
theorem dX12_packOne_35 : decode cX12_packOne 35 = .ok (.aload_n 0, 1) := by decide +kernel
theorem dX12_packOne_36 : decode cX12_packOne 36 = .ok (.getfield 30, 3) := by decide +kernel
theorem dX12_packOne_39 : decode cX12_packOne 39 = .ok (.bipush 64, 2) := by decide +kernel
theorem dX12_packOne_41 : decode cX12_packOne 41 = .ok (.iload_n 1, 1) := by decide +kernel
theorem dX12_packOne_42 : decode cX12_packOne 42 = .ok (.imul, 1) := by decide +kernel
theorem dX12_packOne_43 : decode cX12_packOne 43 = .ok (.iload 4, 2) := by decide +kernel
theorem dX12_packOne_45 : decode cX12_packOne 45 = .ok (.iadd, 1) := by decide +kernel
theorem dX12_packOne_46 : decode cX12_packOne 46 = .ok (.iconst 1, 1) := by decide +kernel
theorem dX12_packOne_47 : decode cX12_packOne 47 = .ok (.isub, 1) := by decide +kernel
theorem dX12_packOne_48 : decode cX12_packOne 48 = .ok (.iaload, 1) := by decide +kernel
theorem dX12_packOne_49 : decode cX12_packOne 49 = .ok (.invokevirtual 97, 3) := by decide +kernel
theorem dX12_packOne_52 : decode cX12_packOne 52 = .ok (.ifCond .eq 35, 3) := by decide +kernel
theorem dX12_packOne_55 : decode cX12_packOne 55 = .ok (.aload_n 0, 1) := by decide +kernel
theorem dX12_packOne_56 : decode cX12_packOne 56 = .ok (.getfield 30, 3) := by decide +kernel
theorem dX12_packOne_59 : decode cX12_packOne 59 = .ok (.bipush 64, 2) := by decide +kernel
theorem dX12_packOne_61 : decode cX12_packOne 61 = .ok (.iload_n 1, 1) := by decide +kernel
theorem dX12_packOne_62 : decode cX12_packOne 62 = .ok (.imul, 1) := by decide +kernel
theorem dX12_packOne_63 : decode cX12_packOne 63 = .ok (.iload 4, 2) := by decide +kernel
theorem dX12_packOne_65 : decode cX12_packOne 65 = .ok (.iadd, 1) := by decide +kernel
theorem dX12_packOne_66 : decode cX12_packOne 66 = .ok (.aload_n 0, 1) := by decide +kernel
theorem dX12_packOne_67 : decode cX12_packOne 67 = .ok (.getfield 30, 3) := by decide +kernel
theorem dX12_packOne_70 : decode cX12_packOne 70 = .ok (.bipush 64, 2) := by decide +kernel
theorem dX12_packOne_72 : decode cX12_packOne 72 = .ok (.iload_n 1, 1) := by decide +kernel
theorem dX12_packOne_73 : decode cX12_packOne 73 = .ok (.imul, 1) := by decide +kernel
theorem dX12_packOne_74 : decode cX12_packOne 74 = .ok (.iload 4, 2) := by decide +kernel
theorem dX12_packOne_76 : decode cX12_packOne 76 = .ok (.iadd, 1) := by decide +kernel
theorem dX12_packOne_77 : decode cX12_packOne 77 = .ok (.iconst 1, 1) := by decide +kernel
theorem dX12_packOne_78 : decode cX12_packOne 78 = .ok (.isub, 1) := by decide +kernel
theorem dX12_packOne_79 : decode cX12_packOne 79 = .ok (.iaload, 1) := by decide +kernel
theorem dX12_packOne_80 : decode cX12_packOne 80 = .ok (.iastore, 1) := by decide +kernel
theorem dX12_packOne_81 : decode cX12_packOne 81 = .ok (.iinc 4 (-1), 3) := by decide +kernel
theorem dX12_packOne_84 : decode cX12_packOne 84 = .ok (.goto (-62), 3) := by decide +kernel
theorem dX12_packOne_87 : decode cX12_packOne 87 = .ok (.aload_n 0, 1) := by decide +kernel
theorem dX12_packOne_88 : decode cX12_packOne 88 = .ok (.getfield 30, 3) := by decide +kernel
theorem dX12_packOne_91 : decode cX12_packOne 91 = .ok (.bipush 64, 2) := by decide +kernel
theorem dX12_packOne_93 : decode cX12_packOne 93 = .ok (.iload_n 1, 1) := by decide +kernel
theorem dX12_packOne_94 : decode cX12_packOne 94 = .ok (.imul, 1) := by decide +kernel
theorem dX12_packOne_95 : decode cX12_packOne 95 = .ok (.iload 4, 2) := by decide +kernel
theorem dX12_packOne_97 : decode cX12_packOne 97 = .ok (.iadd, 1) := by decide +kernel
theorem dX12_packOne_98 : decode cX12_packOne 98 = .ok (.iload_n 3, 1) := by decide +kernel
theorem dX12_packOne_99 : decode cX12_packOne 99 = .ok (.iastore, 1) := by decide +kernel
theorem dX12_packOne_100 : decode cX12_packOne 100 = .ok (.iinc 2 1, 3) := by decide +kernel
theorem dX12_packOne_103 : decode cX12_packOne 103 = .ok (.iinc 3 1, 3) := by decide +kernel
theorem dX12_packOne_106 : decode cX12_packOne 106 = .ok (.goto (-102), 3) := by decide +kernel
theorem dX12_packOne_109 : decode cX12_packOne 109 = .ok (.aload_n 0, 1) := by decide +kernel
theorem dX12_packOne_110 : decode cX12_packOne 110 = .ok (.getfield 33, 3) := by decide +kernel
theorem dX12_packOne_113 : decode cX12_packOne 113 = .ok (.iload_n 1, 1) := by decide +kernel
theorem dX12_packOne_114 : decode cX12_packOne 114 = .ok (.iload_n 2, 1) := by decide +kernel
theorem dX12_packOne_115 : decode cX12_packOne 115 = .ok (.iastore, 1) := by decide +kernel
theorem dX12_packOne_116 : decode cX12_packOne 116 = .ok (.aload_n 0, 1) := by decide +kernel
theorem dX12_packOne_117 : decode cX12_packOne 117 = .ok (.getfield 21, 3) := by decide +kernel
theorem dX12_packOne_120 : decode cX12_packOne 120 = .ok (.iload_n 1, 1) := by decide +kernel
theorem dX12_packOne_121 : decode cX12_packOne 121 = .ok (.iaload, 1) := by decide +kernel
theorem dX12_packOne_122 : decode cX12_packOne 122 = .ok (.invokestatic 100, 3) := by decide +kernel
theorem dX12_packOne_125 : decode cX12_packOne 125 = .ok (.istore_n 3, 1) := by decide +kernel
theorem dX12_packOne_126 : decode cX12_packOne 126 = .ok (.aload_n 0, 1) := by decide +kernel
theorem dX12_packOne_127 : decode cX12_packOne 127 = .ok (.getfield 39, 3) := by decide +kernel
theorem dX12_packOne_130 : decode cX12_packOne 130 = .ok (.iload_n 1, 1) := by decide +kernel
theorem dX12_packOne_131 : decode cX12_packOne 131 = .ok (.iconst 0, 1) := by decide +kernel
theorem dX12_packOne_132 : decode cX12_packOne 132 = .ok (.iastore, 1) := by decide +kernel
theorem dX12_packOne_133 : decode cX12_packOne 133 = .ok (.iload_n 2, 1) := by decide +kernel
theorem dX12_packOne_134 : decode cX12_packOne 134 = .ok (.istore 4, 2) := by decide +kernel
theorem dX12_packOne_136 : decode cX12_packOne 136 = .ok (.iload 4, 2) := by decide +kernel
theorem dX12_packOne_138 : decode cX12_packOne 138 = .ok (.ifCond .le 50, 3) := by decide +kernel
theorem dX12_packOne_141 : decode cX12_packOne 141 = .ok (.aload_n 0, 1) := by decide +kernel
theorem dX12_packOne_142 : decode cX12_packOne 142 = .ok (.getfield 36, 3) := by decide +kernel
theorem dX12_packOne_145 : decode cX12_packOne 145 = .ok (.bipush 64, 2) := by decide +kernel
theorem dX12_packOne_147 : decode cX12_packOne 147 = .ok (.iload_n 1, 1) := by decide +kernel
theorem dX12_packOne_148 : decode cX12_packOne 148 = .ok (.imul, 1) := by decide +kernel
theorem dX12_packOne_149 : decode cX12_packOne 149 = .ok (.aload_n 0, 1) := by decide +kernel
theorem dX12_packOne_150 : decode cX12_packOne 150 = .ok (.getfield 39, 3) := by decide +kernel
theorem dX12_packOne_153 : decode cX12_packOne 153 = .ok (.iload_n 1, 1) := by decide +kernel
theorem dX12_packOne_154 : decode cX12_packOne 154 = .ok (.iaload, 1) := by decide +kernel
theorem dX12_packOne_155 : decode cX12_packOne 155 = .ok (.iadd, 1) := by decide +kernel
theorem dX12_packOne_156 : decode cX12_packOne 156 = .ok (.iload 4, 2) := by decide +kernel
theorem dX12_packOne_158 : decode cX12_packOne 158 = .ok (.iload_n 3, 1) := by decide +kernel
theorem dX12_packOne_159 : decode cX12_packOne 159 = .ok (.if_icmp .ge 8, 3) := by decide +kernel
theorem dX12_packOne_162 : decode cX12_packOne 162 = .ok (.iload 4, 2) := by decide +kernel
theorem dX12_packOne_164 : decode cX12_packOne 164 = .ok (.goto 4, 3) := by decide +kernel
theorem dX12_packOne_167 : decode cX12_packOne 167 = .ok (.iload_n 3, 1) := by decide +kernel
theorem dX12_packOne_168 : decode cX12_packOne 168 = .ok (.iastore, 1) := by decide +kernel
theorem dX12_packOne_169 : decode cX12_packOne 169 = .ok (.aload_n 0, 1) := by decide +kernel
theorem dX12_packOne_170 : decode cX12_packOne 170 = .ok (.getfield 39, 3) := by decide +kernel
theorem dX12_packOne_173 : decode cX12_packOne 173 = .ok (.iload_n 1, 1) := by decide +kernel
theorem dX12_packOne_174 : decode cX12_packOne 174 = .ok (.dup2, 1) := by decide +kernel
theorem dX12_packOne_175 : decode cX12_packOne 175 = .ok (.iaload, 1) := by decide +kernel
theorem dX12_packOne_176 : decode cX12_packOne 176 = .ok (.iconst 1, 1) := by decide +kernel
theorem dX12_packOne_177 : decode cX12_packOne 177 = .ok (.iadd, 1) := by decide +kernel
theorem dX12_packOne_178 : decode cX12_packOne 178 = .ok (.iastore, 1) := by decide +kernel
theorem dX12_packOne_179 : decode cX12_packOne 179 = .ok (.iload 4, 2) := by decide +kernel
theorem dX12_packOne_181 : decode cX12_packOne 181 = .ok (.iload_n 3, 1) := by decide +kernel
theorem dX12_packOne_182 : decode cX12_packOne 182 = .ok (.isub, 1) := by decide +kernel
theorem dX12_packOne_183 : decode cX12_packOne 183 = .ok (.istore 4, 2) := by decide +kernel
theorem dX12_packOne_185 : decode cX12_packOne 185 = .ok (.goto (-49), 3) := by decide +kernel
theorem dX12_packOne_188 : decode cX12_packOne 188 = .ok (.return_, 1) := by decide +kernel
theorem dX12_comeInto_0 : decode cX12_comeInto 0 = .ok (.iconst 0, 1) := by decide +kernel
theorem dX12_comeInto_1 : decode cX12_comeInto 1 = .ok (.istore_n 3, 1) := by decide +kernel
theorem dX12_comeInto_2 : decode cX12_comeInto 2 = .ok (.iconst 0, 1) := by decide +kernel
theorem dX12_comeInto_3 : decode cX12_comeInto 3 = .ok (.istore 4, 2) := by decide +kernel
theorem dX12_comeInto_5 : decode cX12_comeInto 5 = .ok (.iconst 0, 1) := by decide +kernel
theorem dX12_comeInto_6 : decode cX12_comeInto 6 = .ok (.istore 5, 2) := by decide +kernel
theorem dX12_comeInto_8 : decode cX12_comeInto 8 = .ok (.iconst 0, 1) := by decide +kernel
theorem dX12_comeInto_9 : decode cX12_comeInto 9 = .ok (.istore 6, 2) := by decide +kernel
theorem dX12_comeInto_11 : decode cX12_comeInto 11 = .ok (.iload 6, 2) := by decide +kernel
theorem dX12_comeInto_13 : decode cX12_comeInto 13 = .ok (.aload_n 0, 1) := by decide +kernel
theorem dX12_comeInto_14 : decode cX12_comeInto 14 = .ok (.getfield 39, 3) := by decide +kernel
theorem dX12_comeInto_17 : decode cX12_comeInto 17 = .ok (.iload_n 1, 1) := by decide +kernel
theorem dX12_comeInto_18 : decode cX12_comeInto 18 = .ok (.iaload, 1) := by decide +kernel
theorem dX12_comeInto_19 : decode cX12_comeInto 19 = .ok (.if_icmp .ge 59, 3) := by decide +kernel
theorem dX12_comeInto_22 : decode cX12_comeInto 22 = .ok (.aload_n 0, 1) := by decide +kernel
theorem dX12_comeInto_23 : decode cX12_comeInto 23 = .ok (.aload_n 0, 1) := by decide +kernel
theorem dX12_comeInto_24 : decode cX12_comeInto 24 = .ok (.getfield 21, 3) := by decide +kernel
theorem dX12_comeInto_27 : decode cX12_comeInto 27 = .ok (.iload_n 1, 1) := by decide +kernel
theorem dX12_comeInto_28 : decode cX12_comeInto 28 = .ok (.iaload, 1) := by decide +kernel
theorem dX12_comeInto_29 : decode cX12_comeInto 29 = .ok (.aload_n 0, 1) := by decide +kernel
theorem dX12_comeInto_30 : decode cX12_comeInto 30 = .ok (.getfield 30, 3) := by decide +kernel
theorem dX12_comeInto_33 : decode cX12_comeInto 33 = .ok (.bipush 64, 2) := by decide +kernel
theorem dX12_comeInto_35 : decode cX12_comeInto 35 = .ok (.iload_n 1, 1) := by decide +kernel
theorem dX12_comeInto_36 : decode cX12_comeInto 36 = .ok (.imul, 1) := by decide +kernel
theorem dX12_comeInto_37 : decode cX12_comeInto 37 = .ok (.iload 5, 2) := by decide +kernel
theorem dX12_comeInto_39 : decode cX12_comeInto 39 = .ok (.iadd, 1) := by decide +kernel
theorem dX12_comeInto_40 : decode cX12_comeInto 40 = .ok (.iaload, 1) := by decide +kernel
theorem dX12_comeInto_41 : decode cX12_comeInto 41 = .ok (.iload_n 2, 1) := by decide +kernel
theorem dX12_comeInto_42 : decode cX12_comeInto 42 = .ok (.invokevirtual 97, 3) := by decide +kernel
theorem dX12_comeInto_45 : decode cX12_comeInto 45 = .ok (.ifCond .eq 10, 3) := by decide +kernel
theorem dX12_comeInto_48 : decode cX12_comeInto 48 = .ok (.iload 6, 2) := by decide +kernel
theorem dX12_comeInto_50 : decode cX12_comeInto 50 = .ok (.istore_n 3, 1) := by decide +kernel
theorem dX12_comeInto_51 : decode cX12_comeInto 51 = .ok (.iload 5, 2) := by decide +kernel
theorem dX12_comeInto_53 : decode cX12_comeInto 53 = .ok (.istore 4, 2) := by decide +kernel
theorem dX12_comeInto_55 : decode cX12_comeInto 55 = .ok (.iload 5, 2) := by decide +kernel
theorem dX12_comeInto_57 : decode cX12_comeInto 57 = .ok (.aload_n 0, 1) := by decide +kernel
theorem dX12_comeInto_58 : decode cX12_comeInto 58 = .ok (.getfield 36, 3) := by decide +kernel
theorem dX12_comeInto_61 : decode cX12_comeInto 61 = .ok (.bipush 64, 2) := by decide +kernel
theorem dX12_comeInto_63 : decode cX12_comeInto 63 = .ok (.iload_n 1, 1) := by decide +kernel
theorem dX12_comeInto_64 : decode cX12_comeInto 64 = .ok (.imul, 1) := by decide +kernel
theorem dX12_comeInto_65 : decode cX12_comeInto 65 = .ok (.iload 6, 2) := by decide +kernel
theorem dX12_comeInto_67 : decode cX12_comeInto 67 = .ok (.iadd, 1) := by decide +kernel
theorem dX12_comeInto_68 : decode cX12_comeInto 68 = .ok (.iaload, 1) := by decide +kernel
theorem dX12_comeInto_69 : decode cX12_comeInto 69 = .ok (.iadd, 1) := by decide +kernel
theorem dX12_comeInto_70 : decode cX12_comeInto 70 = .ok (.istore 5, 2) := by decide +kernel
theorem dX12_comeInto_72 : decode cX12_comeInto 72 = .ok (.iinc 6 1, 3) := by decide +kernel
theorem dX12_comeInto_75 : decode cX12_comeInto 75 = .ok (.goto (-64), 3) := by decide +kernel
theorem dX12_comeInto_78 : decode cX12_comeInto 78 = .ok (.aload_n 0, 1) := by decide +kernel
theorem dX12_comeInto_79 : decode cX12_comeInto 79 = .ok (.getfield 39, 3) := by decide +kernel
theorem dX12_comeInto_82 : decode cX12_comeInto 82 = .ok (.iload_n 1, 1) := by decide +kernel
theorem dX12_comeInto_83 : decode cX12_comeInto 83 = .ok (.iaload, 1) := by decide +kernel
theorem dX12_comeInto_84 : decode cX12_comeInto 84 = .ok (.ifCond .ne 20, 3) := by decide +kernel
theorem dX12_comeInto_87 : decode cX12_comeInto 87 = .ok (.aload_n 0, 1) := by decide +kernel
theorem dX12_comeInto_88 : decode cX12_comeInto 88 = .ok (.getfield 39, 3) := by decide +kernel
theorem dX12_comeInto_91 : decode cX12_comeInto 91 = .ok (.iload_n 1, 1) := by decide +kernel
theorem dX12_comeInto_92 : decode cX12_comeInto 92 = .ok (.iconst 1, 1) := by decide +kernel
theorem dX12_comeInto_93 : decode cX12_comeInto 93 = .ok (.iastore, 1) := by decide +kernel
theorem dX12_comeInto_94 : decode cX12_comeInto 94 = .ok (.aload_n 0, 1) := by decide +kernel
theorem dX12_comeInto_95 : decode cX12_comeInto 95 = .ok (.getfield 36, 3) := by decide +kernel
theorem dX12_comeInto_98 : decode cX12_comeInto 98 = .ok (.bipush 64, 2) := by decide +kernel
theorem dX12_comeInto_100 : decode cX12_comeInto 100 = .ok (.iload_n 1, 1) := by decide +kernel
theorem dX12_comeInto_101 : decode cX12_comeInto 101 = .ok (.imul, 1) := by decide +kernel
theorem dX12_comeInto_102 : decode cX12_comeInto 102 = .ok (.iconst 0, 1) := by decide +kernel
theorem dX12_comeInto_103 : decode cX12_comeInto 103 = .ok (.iastore, 1) := by decide +kernel
theorem dX12_comeInto_104 : decode cX12_comeInto 104 = .ok (.iload 4, 2) := by decide +kernel
theorem dX12_comeInto_106 : decode cX12_comeInto 106 = .ok (.istore 6, 2) := by decide +kernel
theorem dX12_comeInto_108 : decode cX12_comeInto 108 = .ok (.iload 6, 2) := by decide +kernel
theorem dX12_comeInto_110 : decode cX12_comeInto 110 = .ok (.iload 4, 2) := by decide +kernel
theorem dX12_comeInto_112 : decode cX12_comeInto 112 = .ok (.aload_n 0, 1) := by decide +kernel
theorem dX12_comeInto_113 : decode cX12_comeInto 113 = .ok (.getfield 36, 3) := by decide +kernel
theorem dX12_comeInto_116 : decode cX12_comeInto 116 = .ok (.bipush 64, 2) := by decide +kernel
theorem dX12_comeInto_118 : decode cX12_comeInto 118 = .ok (.iload_n 1, 1) := by decide +kernel
theorem dX12_comeInto_119 : decode cX12_comeInto 119 = .ok (.imul, 1) := by decide +kernel
theorem dX12_comeInto_120 : decode cX12_comeInto 120 = .ok (.iload_n 3, 1) := by decide +kernel
theorem dX12_comeInto_121 : decode cX12_comeInto 121 = .ok (.iadd, 1) := by decide +kernel
theorem dX12_comeInto_122 : decode cX12_comeInto 122 = .ok (.iaload, 1) := by decide +kernel
theorem dX12_comeInto_123 : decode cX12_comeInto 123 = .ok (.iadd, 1) := by decide +kernel
theorem dX12_comeInto_124 : decode cX12_comeInto 124 = .ok (.if_icmp .ge 35, 3) := by decide +kernel
theorem dX12_comeInto_127 : decode cX12_comeInto 127 = .ok (.aload_n 0, 1) := by decide +kernel
theorem dX12_comeInto_128 : decode cX12_comeInto 128 = .ok (.aload_n 0, 1) := by decide +kernel
theorem dX12_comeInto_129 : decode cX12_comeInto 129 = .ok (.getfield 21, 3) := by decide +kernel
theorem dX12_comeInto_132 : decode cX12_comeInto 132 = .ok (.iload_n 1, 1) := by decide +kernel
theorem dX12_comeInto_133 : decode cX12_comeInto 133 = .ok (.iaload, 1) := by decide +kernel
theorem dX12_comeInto_134 : decode cX12_comeInto 134 = .ok (.aload_n 0, 1) := by decide +kernel
theorem dX12_comeInto_135 : decode cX12_comeInto 135 = .ok (.getfield 30, 3) := by decide +kernel
theorem dX12_comeInto_138 : decode cX12_comeInto 138 = .ok (.bipush 64, 2) := by decide +kernel
theorem dX12_comeInto_140 : decode cX12_comeInto 140 = .ok (.iload_n 1, 1) := by decide +kernel
theorem dX12_comeInto_141 : decode cX12_comeInto 141 = .ok (.imul, 1) := by decide +kernel
theorem dX12_comeInto_142 : decode cX12_comeInto 142 = .ok (.iload 6, 2) := by decide +kernel
theorem dX12_comeInto_144 : decode cX12_comeInto 144 = .ok (.iadd, 1) := by decide +kernel
theorem dX12_comeInto_145 : decode cX12_comeInto 145 = .ok (.iaload, 1) := by decide +kernel
theorem dX12_comeInto_146 : decode cX12_comeInto 146 = .ok (.iload_n 2, 1) := by decide +kernel
theorem dX12_comeInto_147 : decode cX12_comeInto 147 = .ok (.invokevirtual 97, 3) := by decide +kernel
theorem dX12_comeInto_150 : decode cX12_comeInto 150 = .ok (.ifCond .eq 9, 3) := by decide +kernel
theorem dX12_comeInto_153 : decode cX12_comeInto 153 = .ok (.iinc 6 1, 3) := by decide +kernel
theorem dX12_comeInto_156 : decode cX12_comeInto 156 = .ok (.goto (-48), 3) := by decide +kernel
theorem dX12_comeInto_159 : decode cX12_comeInto 159 = .ok (.aload_n 0, 1) := by decide +kernel
theorem dX12_comeInto_160 : decode cX12_comeInto 160 = .ok (.getfield 33, 3) := by decide +kernel
theorem dX12_comeInto_163 : decode cX12_comeInto 163 = .ok (.iload_n 1, 1) := by decide +kernel
theorem dX12_comeInto_164 : decode cX12_comeInto 164 = .ok (.iaload, 1) := by decide +kernel
theorem dX12_comeInto_165 : decode cX12_comeInto 165 = .ok (.istore 7, 2) := by decide +kernel
theorem dX12_comeInto_167 : decode cX12_comeInto 167 = .ok (.iload 7, 2) := by decide +kernel
theorem dX12_comeInto_169 : decode cX12_comeInto 169 = .ok (.iload 6, 2) := by decide +kernel
theorem dX12_comeInto_171 : decode cX12_comeInto 171 = .ok (.if_icmp .le 35, 3) := by decide +kernel
theorem dX12_comeInto_174 : decode cX12_comeInto 174 = .ok (.aload_n 0, 1) := by decide +kernel
theorem dX12_comeInto_175 : decode cX12_comeInto 175 = .ok (.getfield 30, 3) := by decide +kernel
theorem dX12_comeInto_178 : decode cX12_comeInto 178 = .ok (.bipush 64, 2) := by decide +kernel
theorem dX12_comeInto_180 : decode cX12_comeInto 180 = .ok (.iload_n 1, 1) := by decide +kernel
theorem dX12_comeInto_181 : decode cX12_comeInto 181 = .ok (.imul, 1) := by decide +kernel
theorem dX12_comeInto_182 : decode cX12_comeInto 182 = .ok (.iload 7, 2) := by decide +kernel
theorem dX12_comeInto_184 : decode cX12_comeInto 184 = .ok (.iadd, 1) := by decide +kernel
theorem dX12_comeInto_185 : decode cX12_comeInto 185 = .ok (.aload_n 0, 1) := by decide +kernel
theorem dX12_comeInto_186 : decode cX12_comeInto 186 = .ok (.getfield 30, 3) := by decide +kernel
theorem dX12_comeInto_189 : decode cX12_comeInto 189 = .ok (.bipush 64, 2) := by decide +kernel
theorem dX12_comeInto_191 : decode cX12_comeInto 191 = .ok (.iload_n 1, 1) := by decide +kernel
theorem dX12_comeInto_192 : decode cX12_comeInto 192 = .ok (.imul, 1) := by decide +kernel
theorem dX12_comeInto_193 : decode cX12_comeInto 193 = .ok (.iload 7, 2) := by decide +kernel
theorem dX12_comeInto_195 : decode cX12_comeInto 195 = .ok (.iadd, 1) := by decide +kernel
theorem dX12_comeInto_196 : decode cX12_comeInto 196 = .ok (.iconst 1, 1) := by decide +kernel
theorem dX12_comeInto_197 : decode cX12_comeInto 197 = .ok (.isub, 1) := by decide +kernel
theorem dX12_comeInto_198 : decode cX12_comeInto 198 = .ok (.iaload, 1) := by decide +kernel
theorem dX12_comeInto_199 : decode cX12_comeInto 199 = .ok (.iastore, 1) := by decide +kernel
theorem dX12_comeInto_200 : decode cX12_comeInto 200 = .ok (.iinc 7 (-1), 3) := by decide +kernel
theorem dX12_comeInto_203 : decode cX12_comeInto 203 = .ok (.goto (-36), 3) := by decide +kernel
theorem dX12_comeInto_206 : decode cX12_comeInto 206 = .ok (.aload_n 0, 1) := by decide +kernel
theorem dX12_comeInto_207 : decode cX12_comeInto 207 = .ok (.getfield 30, 3) := by decide +kernel
theorem dX12_comeInto_210 : decode cX12_comeInto 210 = .ok (.bipush 64, 2) := by decide +kernel
theorem dX12_comeInto_212 : decode cX12_comeInto 212 = .ok (.iload_n 1, 1) := by decide +kernel
theorem dX12_comeInto_213 : decode cX12_comeInto 213 = .ok (.imul, 1) := by decide +kernel
theorem dX12_comeInto_214 : decode cX12_comeInto 214 = .ok (.iload 6, 2) := by decide +kernel
theorem dX12_comeInto_216 : decode cX12_comeInto 216 = .ok (.iadd, 1) := by decide +kernel
theorem dX12_comeInto_217 : decode cX12_comeInto 217 = .ok (.iload_n 2, 1) := by decide +kernel
theorem dX12_comeInto_218 : decode cX12_comeInto 218 = .ok (.iastore, 1) := by decide +kernel
theorem dX12_comeInto_219 : decode cX12_comeInto 219 = .ok (.aload_n 0, 1) := by decide +kernel
theorem dX12_comeInto_220 : decode cX12_comeInto 220 = .ok (.getfield 33, 3) := by decide +kernel
theorem dX12_comeInto_223 : decode cX12_comeInto 223 = .ok (.iload_n 1, 1) := by decide +kernel
theorem dX12_comeInto_224 : decode cX12_comeInto 224 = .ok (.dup2, 1) := by decide +kernel
theorem dX12_comeInto_225 : decode cX12_comeInto 225 = .ok (.iaload, 1) := by decide +kernel
theorem dX12_comeInto_226 : decode cX12_comeInto 226 = .ok (.iconst 1, 1) := by decide +kernel
theorem dX12_comeInto_227 : decode cX12_comeInto 227 = .ok (.iadd, 1) := by decide +kernel
theorem dX12_comeInto_228 : decode cX12_comeInto 228 = .ok (.iastore, 1) := by decide +kernel
theorem dX12_comeInto_229 : decode cX12_comeInto 229 = .ok (.aload_n 0, 1) := by decide +kernel
theorem dX12_comeInto_230 : decode cX12_comeInto 230 = .ok (.getfield 36, 3) := by decide +kernel
theorem dX12_comeInto_233 : decode cX12_comeInto 233 = .ok (.bipush 64, 2) := by decide +kernel
theorem dX12_comeInto_235 : decode cX12_comeInto 235 = .ok (.iload_n 1, 1) := by decide +kernel
theorem dX12_comeInto_236 : decode cX12_comeInto 236 = .ok (.imul, 1) := by decide +kernel
theorem dX12_comeInto_237 : decode cX12_comeInto 237 = .ok (.iload_n 3, 1) := by decide +kernel
theorem dX12_comeInto_238 : decode cX12_comeInto 238 = .ok (.iadd, 1) := by decide +kernel
theorem dX12_comeInto_239 : decode cX12_comeInto 239 = .ok (.dup2, 1) := by decide +kernel
theorem dX12_comeInto_240 : decode cX12_comeInto 240 = .ok (.iaload, 1) := by decide +kernel
theorem dX12_comeInto_241 : decode cX12_comeInto 241 = .ok (.iconst 1, 1) := by decide +kernel
theorem dX12_comeInto_242 : decode cX12_comeInto 242 = .ok (.iadd, 1) := by decide +kernel
theorem dX12_comeInto_243 : decode cX12_comeInto 243 = .ok (.iastore, 1) := by decide +kernel
theorem dX12_comeInto_244 : decode cX12_comeInto 244 = .ok (.aload_n 0, 1) := by decide +kernel
theorem dX12_comeInto_245 : decode cX12_comeInto 245 = .ok (.getfield 36, 3) := by decide +kernel
theorem dX12_comeInto_248 : decode cX12_comeInto 248 = .ok (.bipush 64, 2) := by decide +kernel
theorem dX12_comeInto_250 : decode cX12_comeInto 250 = .ok (.iload_n 1, 1) := by decide +kernel
theorem dX12_comeInto_251 : decode cX12_comeInto 251 = .ok (.imul, 1) := by decide +kernel
theorem dX12_comeInto_252 : decode cX12_comeInto 252 = .ok (.iload_n 3, 1) := by decide +kernel
theorem dX12_comeInto_253 : decode cX12_comeInto 253 = .ok (.iadd, 1) := by decide +kernel
theorem dX12_comeInto_254 : decode cX12_comeInto 254 = .ok (.iaload, 1) := by decide +kernel
theorem dX12_comeInto_255 : decode cX12_comeInto 255 = .ok (.aload_n 0, 1) := by decide +kernel
theorem dX12_comeInto_256 : decode cX12_comeInto 256 = .ok (.getfield 21, 3) := by decide +kernel
theorem dX12_comeInto_259 : decode cX12_comeInto 259 = .ok (.iload_n 1, 1) := by decide +kernel
theorem dX12_comeInto_260 : decode cX12_comeInto 260 = .ok (.iaload, 1) := by decide +kernel
theorem dX12_comeInto_261 : decode cX12_comeInto 261 = .ok (.invokestatic 100, 3) := by decide +kernel
theorem dX12_comeInto_264 : decode cX12_comeInto 264 = .ok (.if_icmp .le 9, 3) := by decide +kernel
theorem dX12_comeInto_267 : decode cX12_comeInto 267 = .ok (.aload_n 0, 1) := by decide +kernel
theorem dX12_comeInto_268 : decode cX12_comeInto 268 = .ok (.iload_n 1, 1) := by decide +kernel
theorem dX12_comeInto_269 : decode cX12_comeInto 269 = .ok (.iload_n 3, 1) := by decide +kernel
theorem dX12_comeInto_270 : decode cX12_comeInto 270 = .ok (.invokevirtual 103, 3) := by decide +kernel
theorem dX12_comeInto_273 : decode cX12_comeInto 273 = .ok (.return_, 1) := by decide +kernel
theorem dX12_cut_0 : decode cX12_cut 0 = .ok (.aload_n 0, 1) := by decide +kernel
theorem dX12_cut_1 : decode cX12_cut 1 = .ok (.getfield 39, 3) := by decide +kernel
theorem dX12_cut_4 : decode cX12_cut 4 = .ok (.iload_n 1, 1) := by decide +kernel
theorem dX12_cut_5 : decode cX12_cut 5 = .ok (.iaload, 1) := by decide +kernel
theorem dX12_cut_6 : decode cX12_cut 6 = .ok (.istore_n 3, 1) := by decide +kernel
theorem dX12_cut_7 : decode cX12_cut 7 = .ok (.iload_n 3, 1) := by decide +kernel
theorem dX12_cut_8 : decode cX12_cut 8 = .ok (.iload_n 2, 1) := by decide +kernel
theorem dX12_cut_9 : decode cX12_cut 9 = .ok (.iconst 1, 1) := by decide +kernel
theorem dX12_cut_10 : decode cX12_cut 10 = .ok (.iadd, 1) := by decide +kernel
theorem dX12_cut_11 : decode cX12_cut 11 = .ok (.if_icmp .le 33, 3) := by decide +kernel
theorem dX12_cut_14 : decode cX12_cut 14 = .ok (.aload_n 0, 1) := by decide +kernel
theorem dX12_cut_15 : decode cX12_cut 15 = .ok (.getfield 36, 3) := by decide +kernel
theorem dX12_cut_18 : decode cX12_cut 18 = .ok (.bipush 64, 2) := by decide +kernel
theorem dX12_cut_20 : decode cX12_cut 20 = .ok (.iload_n 1, 1) := by decide +kernel
theorem dX12_cut_21 : decode cX12_cut 21 = .ok (.imul, 1) := by decide +kernel
theorem dX12_cut_22 : decode cX12_cut 22 = .ok (.iload_n 3, 1) := by decide +kernel
theorem dX12_cut_23 : decode cX12_cut 23 = .ok (.iadd, 1) := by decide +kernel
theorem dX12_cut_24 : decode cX12_cut 24 = .ok (.aload_n 0, 1) := by decide +kernel
theorem dX12_cut_25 : decode cX12_cut 25 = .ok (.getfield 36, 3) := by decide +kernel
theorem dX12_cut_28 : decode cX12_cut 28 = .ok (.bipush 64, 2) := by decide +kernel
theorem dX12_cut_30 : decode cX12_cut 30 = .ok (.iload_n 1, 1) := by decide +kernel
theorem dX12_cut_31 : decode cX12_cut 31 = .ok (.imul, 1) := by decide +kernel
theorem dX12_cut_32 : decode cX12_cut 32 = .ok (.iload_n 3, 1) := by decide +kernel
theorem dX12_cut_33 : decode cX12_cut 33 = .ok (.iadd, 1) := by decide +kernel
theorem dX12_cut_34 : decode cX12_cut 34 = .ok (.iconst 1, 1) := by decide +kernel
theorem dX12_cut_35 : decode cX12_cut 35 = .ok (.isub, 1) := by decide +kernel
theorem dX12_cut_36 : decode cX12_cut 36 = .ok (.iaload, 1) := by decide +kernel
theorem dX12_cut_37 : decode cX12_cut 37 = .ok (.iastore, 1) := by decide +kernel
theorem dX12_cut_38 : decode cX12_cut 38 = .ok (.iinc 3 (-1), 3) := by decide +kernel
theorem dX12_cut_41 : decode cX12_cut 41 = .ok (.goto (-34), 3) := by decide +kernel
theorem dX12_cut_44 : decode cX12_cut 44 = .ok (.aload_n 0, 1) := by decide +kernel
theorem dX12_cut_45 : decode cX12_cut 45 = .ok (.getfield 36, 3) := by decide +kernel
theorem dX12_cut_48 : decode cX12_cut 48 = .ok (.bipush 64, 2) := by decide +kernel
theorem dX12_cut_50 : decode cX12_cut 50 = .ok (.iload_n 1, 1) := by decide +kernel
theorem dX12_cut_51 : decode cX12_cut 51 = .ok (.imul, 1) := by decide +kernel
theorem dX12_cut_52 : decode cX12_cut 52 = .ok (.iload_n 2, 1) := by decide +kernel
theorem dX12_cut_53 : decode cX12_cut 53 = .ok (.iadd, 1) := by decide +kernel
theorem dX12_cut_54 : decode cX12_cut 54 = .ok (.iaload, 1) := by decide +kernel
theorem dX12_cut_55 : decode cX12_cut 55 = .ok (.istore_n 3, 1) := by decide +kernel
theorem dX12_cut_56 : decode cX12_cut 56 = .ok (.aload_n 0, 1) := by decide +kernel
theorem dX12_cut_57 : decode cX12_cut 57 = .ok (.getfield 36, 3) := by decide +kernel
theorem dX12_cut_60 : decode cX12_cut 60 = .ok (.bipush 64, 2) := by decide +kernel
theorem dX12_cut_62 : decode cX12_cut 62 = .ok (.iload_n 1, 1) := by decide +kernel
theorem dX12_cut_63 : decode cX12_cut 63 = .ok (.imul, 1) := by decide +kernel
theorem dX12_cut_64 : decode cX12_cut 64 = .ok (.iload_n 2, 1) := by decide +kernel
theorem dX12_cut_65 : decode cX12_cut 65 = .ok (.iadd, 1) := by decide +kernel
theorem dX12_cut_66 : decode cX12_cut 66 = .ok (.iload_n 3, 1) := by decide +kernel
theorem dX12_cut_67 : decode cX12_cut 67 = .ok (.iconst 1, 1) := by decide +kernel
theorem dX12_cut_68 : decode cX12_cut 68 = .ok (.iadd, 1) := by decide +kernel
theorem dX12_cut_69 : decode cX12_cut 69 = .ok (.iconst 2, 1) := by decide +kernel
theorem dX12_cut_70 : decode cX12_cut 70 = .ok (.idiv, 1) := by decide +kernel
theorem dX12_cut_71 : decode cX12_cut 71 = .ok (.iastore, 1) := by decide +kernel
theorem dX12_cut_72 : decode cX12_cut 72 = .ok (.aload_n 0, 1) := by decide +kernel
theorem dX12_cut_73 : decode cX12_cut 73 = .ok (.getfield 36, 3) := by decide +kernel
theorem dX12_cut_76 : decode cX12_cut 76 = .ok (.bipush 64, 2) := by decide +kernel
theorem dX12_cut_78 : decode cX12_cut 78 = .ok (.iload_n 1, 1) := by decide +kernel
theorem dX12_cut_79 : decode cX12_cut 79 = .ok (.imul, 1) := by decide +kernel
theorem dX12_cut_80 : decode cX12_cut 80 = .ok (.iload_n 2, 1) := by decide +kernel
theorem dX12_cut_81 : decode cX12_cut 81 = .ok (.iadd, 1) := by decide +kernel
theorem dX12_cut_82 : decode cX12_cut 82 = .ok (.iconst 1, 1) := by decide +kernel
theorem dX12_cut_83 : decode cX12_cut 83 = .ok (.iadd, 1) := by decide +kernel
theorem dX12_cut_84 : decode cX12_cut 84 = .ok (.iload_n 3, 1) := by decide +kernel
theorem dX12_cut_85 : decode cX12_cut 85 = .ok (.iconst 2, 1) := by decide +kernel
theorem dX12_cut_86 : decode cX12_cut 86 = .ok (.idiv, 1) := by decide +kernel
theorem dX12_cut_87 : decode cX12_cut 87 = .ok (.iastore, 1) := by decide +kernel
theorem dX12_cut_88 : decode cX12_cut 88 = .ok (.aload_n 0, 1) := by decide +kernel
theorem dX12_cut_89 : decode cX12_cut 89 = .ok (.getfield 39, 3) := by decide +kernel
theorem dX12_cut_92 : decode cX12_cut 92 = .ok (.iload_n 1, 1) := by decide +kernel
theorem dX12_cut_93 : decode cX12_cut 93 = .ok (.dup2, 1) := by decide +kernel
theorem dX12_cut_94 : decode cX12_cut 94 = .ok (.iaload, 1) := by decide +kernel
theorem dX12_cut_95 : decode cX12_cut 95 = .ok (.iconst 1, 1) := by decide +kernel
theorem dX12_cut_96 : decode cX12_cut 96 = .ok (.iadd, 1) := by decide +kernel
theorem dX12_cut_97 : decode cX12_cut 97 = .ok (.iastore, 1) := by decide +kernel
theorem dX12_cut_98 : decode cX12_cut 98 = .ok (.aload_n 0, 1) := by decide +kernel
theorem dX12_cut_99 : decode cX12_cut 99 = .ok (.getfield 27, 3) := by decide +kernel
theorem dX12_cut_102 : decode cX12_cut 102 = .ok (.iload_n 1, 1) := by decide +kernel
theorem dX12_cut_103 : decode cX12_cut 103 = .ok (.dup2, 1) := by decide +kernel
theorem dX12_cut_104 : decode cX12_cut 104 = .ok (.iaload, 1) := by decide +kernel
theorem dX12_cut_105 : decode cX12_cut 105 = .ok (.iconst 1, 1) := by decide +kernel
theorem dX12_cut_106 : decode cX12_cut 106 = .ok (.iadd, 1) := by decide +kernel
theorem dX12_cut_107 : decode cX12_cut 107 = .ok (.iastore, 1) := by decide +kernel
theorem dX12_cut_108 : decode cX12_cut 108 = .ok (.return_, 1) := by decide +kernel
theorem dX12_goFrom_0 : decode cX12_goFrom 0 = .ok (.iconst 0, 1) := by decide +kernel
theorem dX12_goFrom_1 : decode cX12_goFrom 1 = .ok (.istore_n 3, 1) := by decide +kernel
theorem dX12_goFrom_2 : decode cX12_goFrom 2 = .ok (.aload_n 0, 1) := by decide +kernel
theorem dX12_goFrom_3 : decode cX12_goFrom 3 = .ok (.getfield 30, 3) := by decide +kernel
theorem dX12_goFrom_6 : decode cX12_goFrom 6 = .ok (.bipush 64, 2) := by decide +kernel
theorem dX12_goFrom_8 : decode cX12_goFrom 8 = .ok (.iload_n 1, 1) := by decide +kernel
theorem dX12_goFrom_9 : decode cX12_goFrom 9 = .ok (.imul, 1) := by decide +kernel
theorem dX12_goFrom_10 : decode cX12_goFrom 10 = .ok (.iload_n 3, 1) := by decide +kernel
theorem dX12_goFrom_11 : decode cX12_goFrom 11 = .ok (.iadd, 1) := by decide +kernel
theorem dX12_goFrom_12 : decode cX12_goFrom 12 = .ok (.iaload, 1) := by decide +kernel
theorem dX12_goFrom_13 : decode cX12_goFrom 13 = .ok (.iload_n 2, 1) := by decide +kernel
theorem dX12_goFrom_14 : decode cX12_goFrom 14 = .ok (.if_icmp .eq 9, 3) := by decide +kernel
theorem dX12_goFrom_17 : decode cX12_goFrom 17 = .ok (.iinc 3 1, 3) := by decide +kernel
theorem dX12_goFrom_20 : decode cX12_goFrom 20 = .ok (.goto (-18), 3) := by decide +kernel
theorem dX12_goFrom_23 : decode cX12_goFrom 23 = .ok (.iconst 0, 1) := by decide +kernel
theorem dX12_goFrom_24 : decode cX12_goFrom 24 = .ok (.istore 4, 2) := by decide +kernel
theorem dX12_goFrom_26 : decode cX12_goFrom 26 = .ok (.iconst 0, 1) := by decide +kernel
theorem dX12_goFrom_27 : decode cX12_goFrom 27 = .ok (.istore 5, 2) := by decide +kernel
theorem dX12_goFrom_29 : decode cX12_goFrom 29 = .ok (.iload_n 3, 1) := by decide +kernel
theorem dX12_goFrom_30 : decode cX12_goFrom 30 = .ok (.iload 5, 2) := by decide +kernel
theorem dX12_goFrom_32 : decode cX12_goFrom 32 = .ok (.aload_n 0, 1) := by decide +kernel
theorem dX12_goFrom_33 : decode cX12_goFrom 33 = .ok (.getfield 36, 3) := by decide +kernel
theorem dX12_goFrom_36 : decode cX12_goFrom 36 = .ok (.bipush 64, 2) := by decide +kernel
theorem dX12_goFrom_38 : decode cX12_goFrom 38 = .ok (.iload_n 1, 1) := by decide +kernel
theorem dX12_goFrom_39 : decode cX12_goFrom 39 = .ok (.imul, 1) := by decide +kernel
theorem dX12_goFrom_40 : decode cX12_goFrom 40 = .ok (.iload 4, 2) := by decide +kernel
theorem dX12_goFrom_42 : decode cX12_goFrom 42 = .ok (.iadd, 1) := by decide +kernel
theorem dX12_goFrom_43 : decode cX12_goFrom 43 = .ok (.iaload, 1) := by decide +kernel
theorem dX12_goFrom_44 : decode cX12_goFrom 44 = .ok (.iadd, 1) := by decide +kernel
theorem dX12_goFrom_45 : decode cX12_goFrom 45 = .ok (.if_icmp .lt 26, 3) := by decide +kernel
theorem dX12_goFrom_48 : decode cX12_goFrom 48 = .ok (.iload 5, 2) := by decide +kernel
theorem dX12_goFrom_50 : decode cX12_goFrom 50 = .ok (.aload_n 0, 1) := by decide +kernel
theorem dX12_goFrom_51 : decode cX12_goFrom 51 = .ok (.getfield 36, 3) := by decide +kernel
theorem dX12_goFrom_54 : decode cX12_goFrom 54 = .ok (.bipush 64, 2) := by decide +kernel
theorem dX12_goFrom_56 : decode cX12_goFrom 56 = .ok (.iload_n 1, 1) := by decide +kernel
theorem dX12_goFrom_57 : decode cX12_goFrom 57 = .ok (.imul, 1) := by decide +kernel
theorem dX12_goFrom_58 : decode cX12_goFrom 58 = .ok (.iload 4, 2) := by decide +kernel
theorem dX12_goFrom_60 : decode cX12_goFrom 60 = .ok (.iadd, 1) := by decide +kernel
theorem dX12_goFrom_61 : decode cX12_goFrom 61 = .ok (.iaload, 1) := by decide +kernel
theorem dX12_goFrom_62 : decode cX12_goFrom 62 = .ok (.iadd, 1) := by decide +kernel
theorem dX12_goFrom_63 : decode cX12_goFrom 63 = .ok (.istore 5, 2) := by decide +kernel
theorem dX12_goFrom_65 : decode cX12_goFrom 65 = .ok (.iinc 4 1, 3) := by decide +kernel
theorem dX12_goFrom_68 : decode cX12_goFrom 68 = .ok (.goto (-39), 3) := by decide +kernel
theorem dX12_goFrom_71 : decode cX12_goFrom 71 = .ok (.iload_n 3, 1) := by decide +kernel
theorem dX12_goFrom_72 : decode cX12_goFrom 72 = .ok (.iconst 1, 1) := by decide +kernel
theorem dX12_goFrom_73 : decode cX12_goFrom 73 = .ok (.iadd, 1) := by decide +kernel
theorem dX12_goFrom_74 : decode cX12_goFrom 74 = .ok (.istore 6, 2) := by decide +kernel
theorem dX12_goFrom_76 : decode cX12_goFrom 76 = .ok (.iload 6, 2) := by decide +kernel
theorem dX12_goFrom_78 : decode cX12_goFrom 78 = .ok (.aload_n 0, 1) := by decide +kernel
theorem dX12_goFrom_79 : decode cX12_goFrom 79 = .ok (.getfield 33, 3) := by decide +kernel
theorem dX12_goFrom_82 : decode cX12_goFrom 82 = .ok (.iload_n 1, 1) := by decide +kernel
theorem dX12_goFrom_83 : decode cX12_goFrom 83 = .ok (.iaload, 1) := by decide +kernel
theorem dX12_goFrom_84 : decode cX12_goFrom 84 = .ok (.if_icmp .ge 35, 3) := by decide +kernel
theorem dX12_goFrom_87 : decode cX12_goFrom 87 = .ok (.aload_n 0, 1) := by decide +kernel
theorem dX12_goFrom_88 : decode cX12_goFrom 88 = .ok (.getfield 30, 3) := by decide +kernel
theorem dX12_goFrom_91 : decode cX12_goFrom 91 = .ok (.bipush 64, 2) := by decide +kernel
theorem dX12_goFrom_93 : decode cX12_goFrom 93 = .ok (.iload_n 1, 1) := by decide +kernel
theorem dX12_goFrom_94 : decode cX12_goFrom 94 = .ok (.imul, 1) := by decide +kernel
theorem dX12_goFrom_95 : decode cX12_goFrom 95 = .ok (.iload 6, 2) := by decide +kernel
theorem dX12_goFrom_97 : decode cX12_goFrom 97 = .ok (.iadd, 1) := by decide +kernel
theorem dX12_goFrom_98 : decode cX12_goFrom 98 = .ok (.iconst 1, 1) := by decide +kernel
theorem dX12_goFrom_99 : decode cX12_goFrom 99 = .ok (.isub, 1) := by decide +kernel
theorem dX12_goFrom_100 : decode cX12_goFrom 100 = .ok (.aload_n 0, 1) := by decide +kernel
theorem dX12_goFrom_101 : decode cX12_goFrom 101 = .ok (.getfield 30, 3) := by decide +kernel
theorem dX12_goFrom_104 : decode cX12_goFrom 104 = .ok (.bipush 64, 2) := by decide +kernel
theorem dX12_goFrom_106 : decode cX12_goFrom 106 = .ok (.iload_n 1, 1) := by decide +kernel
theorem dX12_goFrom_107 : decode cX12_goFrom 107 = .ok (.imul, 1) := by decide +kernel
theorem dX12_goFrom_108 : decode cX12_goFrom 108 = .ok (.iload 6, 2) := by decide +kernel
theorem dX12_goFrom_110 : decode cX12_goFrom 110 = .ok (.iadd, 1) := by decide +kernel
theorem dX12_goFrom_111 : decode cX12_goFrom 111 = .ok (.iaload, 1) := by decide +kernel
theorem dX12_goFrom_112 : decode cX12_goFrom 112 = .ok (.iastore, 1) := by decide +kernel
theorem dX12_goFrom_113 : decode cX12_goFrom 113 = .ok (.iinc 6 1, 3) := by decide +kernel
theorem dX12_goFrom_116 : decode cX12_goFrom 116 = .ok (.goto (-40), 3) := by decide +kernel
theorem dX12_goFrom_119 : decode cX12_goFrom 119 = .ok (.aload_n 0, 1) := by decide +kernel
theorem dX12_goFrom_120 : decode cX12_goFrom 120 = .ok (.getfield 33, 3) := by decide +kernel
theorem dX12_goFrom_123 : decode cX12_goFrom 123 = .ok (.iload_n 1, 1) := by decide +kernel
theorem dX12_goFrom_124 : decode cX12_goFrom 124 = .ok (.dup2, 1) := by decide +kernel
theorem dX12_goFrom_125 : decode cX12_goFrom 125 = .ok (.iaload, 1) := by decide +kernel
theorem dX12_goFrom_126 : decode cX12_goFrom 126 = .ok (.iconst 1, 1) := by decide +kernel
theorem dX12_goFrom_127 : decode cX12_goFrom 127 = .ok (.isub, 1) := by decide +kernel
theorem dX12_goFrom_128 : decode cX12_goFrom 128 = .ok (.iastore, 1) := by decide +kernel
theorem dX12_goFrom_129 : decode cX12_goFrom 129 = .ok (.aload_n 0, 1) := by decide +kernel
theorem dX12_goFrom_130 : decode cX12_goFrom 130 = .ok (.getfield 36, 3) := by decide +kernel
theorem dX12_goFrom_133 : decode cX12_goFrom 133 = .ok (.bipush 64, 2) := by decide +kernel
theorem dX12_goFrom_135 : decode cX12_goFrom 135 = .ok (.iload_n 1, 1) := by decide +kernel
theorem dX12_goFrom_136 : decode cX12_goFrom 136 = .ok (.imul, 1) := by decide +kernel
theorem dX12_goFrom_137 : decode cX12_goFrom 137 = .ok (.iload 4, 2) := by decide +kernel
theorem dX12_goFrom_139 : decode cX12_goFrom 139 = .ok (.iadd, 1) := by decide +kernel
theorem dX12_goFrom_140 : decode cX12_goFrom 140 = .ok (.dup2, 1) := by decide +kernel
theorem dX12_goFrom_141 : decode cX12_goFrom 141 = .ok (.iaload, 1) := by decide +kernel
theorem dX12_goFrom_142 : decode cX12_goFrom 142 = .ok (.iconst 1, 1) := by decide +kernel
theorem dX12_goFrom_143 : decode cX12_goFrom 143 = .ok (.isub, 1) := by decide +kernel
theorem dX12_goFrom_144 : decode cX12_goFrom 144 = .ok (.iastore, 1) := by decide +kernel
theorem dX12_goFrom_145 : decode cX12_goFrom 145 = .ok (.aload_n 0, 1) := by decide +kernel
theorem dX12_goFrom_146 : decode cX12_goFrom 146 = .ok (.getfield 36, 3) := by decide +kernel
theorem dX12_goFrom_149 : decode cX12_goFrom 149 = .ok (.bipush 64, 2) := by decide +kernel
theorem dX12_goFrom_151 : decode cX12_goFrom 151 = .ok (.iload_n 1, 1) := by decide +kernel
theorem dX12_goFrom_152 : decode cX12_goFrom 152 = .ok (.imul, 1) := by decide +kernel
theorem dX12_goFrom_153 : decode cX12_goFrom 153 = .ok (.iload 4, 2) := by decide +kernel
theorem dX12_goFrom_155 : decode cX12_goFrom 155 = .ok (.iadd, 1) := by decide +kernel
theorem dX12_goFrom_156 : decode cX12_goFrom 156 = .ok (.iaload, 1) := by decide +kernel
theorem dX12_goFrom_157 : decode cX12_goFrom 157 = .ok (.ifCond .ne 62, 3) := by decide +kernel
theorem dX12_goFrom_160 : decode cX12_goFrom 160 = .ok (.iload 4, 2) := by decide +kernel
theorem dX12_goFrom_162 : decode cX12_goFrom 162 = .ok (.iconst 1, 1) := by decide +kernel
theorem dX12_goFrom_163 : decode cX12_goFrom 163 = .ok (.iadd, 1) := by decide +kernel
theorem dX12_goFrom_164 : decode cX12_goFrom 164 = .ok (.istore 6, 2) := by decide +kernel
theorem dX12_goFrom_166 : decode cX12_goFrom 166 = .ok (.iload 6, 2) := by decide +kernel
theorem dX12_goFrom_168 : decode cX12_goFrom 168 = .ok (.aload_n 0, 1) := by decide +kernel
theorem dX12_goFrom_169 : decode cX12_goFrom 169 = .ok (.getfield 39, 3) := by decide +kernel
theorem dX12_goFrom_172 : decode cX12_goFrom 172 = .ok (.iload_n 1, 1) := by decide +kernel
theorem dX12_goFrom_173 : decode cX12_goFrom 173 = .ok (.iaload, 1) := by decide +kernel
theorem dX12_goFrom_174 : decode cX12_goFrom 174 = .ok (.if_icmp .ge 35, 3) := by decide +kernel
theorem dX12_goFrom_177 : decode cX12_goFrom 177 = .ok (.aload_n 0, 1) := by decide +kernel
theorem dX12_goFrom_178 : decode cX12_goFrom 178 = .ok (.getfield 36, 3) := by decide +kernel
theorem dX12_goFrom_181 : decode cX12_goFrom 181 = .ok (.bipush 64, 2) := by decide +kernel
theorem dX12_goFrom_183 : decode cX12_goFrom 183 = .ok (.iload_n 1, 1) := by decide +kernel
theorem dX12_goFrom_184 : decode cX12_goFrom 184 = .ok (.imul, 1) := by decide +kernel
theorem dX12_goFrom_185 : decode cX12_goFrom 185 = .ok (.iload 6, 2) := by decide +kernel
theorem dX12_goFrom_187 : decode cX12_goFrom 187 = .ok (.iadd, 1) := by decide +kernel
theorem dX12_goFrom_188 : decode cX12_goFrom 188 = .ok (.iconst 1, 1) := by decide +kernel
theorem dX12_goFrom_189 : decode cX12_goFrom 189 = .ok (.isub, 1) := by decide +kernel
theorem dX12_goFrom_190 : decode cX12_goFrom 190 = .ok (.aload_n 0, 1) := by decide +kernel
theorem dX12_goFrom_191 : decode cX12_goFrom 191 = .ok (.getfield 36, 3) := by decide +kernel
theorem dX12_goFrom_194 : decode cX12_goFrom 194 = .ok (.bipush 64, 2) := by decide +kernel
theorem dX12_goFrom_196 : decode cX12_goFrom 196 = .ok (.iload_n 1, 1) := by decide +kernel
theorem dX12_goFrom_197 : decode cX12_goFrom 197 = .ok (.imul, 1) := by decide +kernel
theorem dX12_goFrom_198 : decode cX12_goFrom 198 = .ok (.iload 6, 2) := by decide +kernel
theorem dX12_goFrom_200 : decode cX12_goFrom 200 = .ok (.iadd, 1) := by decide +kernel
theorem dX12_goFrom_201 : decode cX12_goFrom 201 = .ok (.iaload, 1) := by decide +kernel
theorem dX12_goFrom_202 : decode cX12_goFrom 202 = .ok (.iastore, 1) := by decide +kernel
theorem dX12_goFrom_203 : decode cX12_goFrom 203 = .ok (.iinc 6 1, 3) := by decide +kernel
theorem dX12_goFrom_206 : decode cX12_goFrom 206 = .ok (.goto (-40), 3) := by decide +kernel
theorem dX12_goFrom_209 : decode cX12_goFrom 209 = .ok (.aload_n 0, 1) := by decide +kernel
theorem dX12_goFrom_210 : decode cX12_goFrom 210 = .ok (.getfield 39, 3) := by decide +kernel
theorem dX12_goFrom_213 : decode cX12_goFrom 213 = .ok (.iload_n 1, 1) := by decide +kernel
theorem dX12_goFrom_214 : decode cX12_goFrom 214 = .ok (.dup2, 1) := by decide +kernel
theorem dX12_goFrom_215 : decode cX12_goFrom 215 = .ok (.iaload, 1) := by decide +kernel
theorem dX12_goFrom_216 : decode cX12_goFrom 216 = .ok (.iconst 1, 1) := by decide +kernel
theorem dX12_goFrom_217 : decode cX12_goFrom 217 = .ok (.isub, 1) := by decide +kernel
theorem dX12_goFrom_218 : decode cX12_goFrom 218 = .ok (.iastore, 1) := by decide +kernel
theorem dX12_goFrom_219 : decode cX12_goFrom 219 = .ok (.return_, 1) := by decide +kernel
theorem dX12_comeIntoAll_0 : decode cX12_comeIntoAll 0 = .ok (.iconst 0, 1) := by decide +kernel
theorem dX12_comeIntoAll_1 : decode cX12_comeIntoAll 1 = .ok (.istore_n 2, 1) := by decide +kernel
theorem dX12_comeIntoAll_2 : decode cX12_comeIntoAll 2 = .ok (.iload_n 2, 1) := by decide +kernel
theorem dX12_comeIntoAll_3 : decode cX12_comeIntoAll 3 = .ok (.aload_n 0, 1) := by decide +kernel
theorem dX12_comeIntoAll_4 : decode cX12_comeIntoAll 4 = .ok (.getfield 94, 3) := by decide +kernel
theorem dX12_comeIntoAll_7 : decode cX12_comeIntoAll 7 = .ok (.if_icmp .ge 24, 3) := by decide +kernel
theorem dX12_comeIntoAll_10 : decode cX12_comeIntoAll 10 = .ok (.aload_n 0, 1) := by decide +kernel
theorem dX12_comeIntoAll_11 : decode cX12_comeIntoAll 11 = .ok (.getfield 24, 3) := by decide +kernel
theorem dX12_comeIntoAll_14 : decode cX12_comeIntoAll 14 = .ok (.iload_n 2, 1) := by decide +kernel
theorem dX12_comeIntoAll_15 : decode cX12_comeIntoAll 15 = .ok (.baload, 1) := by decide +kernel
theorem dX12_comeIntoAll_16 : decode cX12_comeIntoAll 16 = .ok (.ifCond .ne 9, 3) := by decide +kernel
theorem dX12_comeIntoAll_19 : decode cX12_comeIntoAll 19 = .ok (.aload_n 0, 1) := by decide +kernel
theorem dX12_comeIntoAll_20 : decode cX12_comeIntoAll 20 = .ok (.iload_n 2, 1) := by decide +kernel
theorem dX12_comeIntoAll_21 : decode cX12_comeIntoAll 21 = .ok (.iload_n 1, 1) := by decide +kernel
theorem dX12_comeIntoAll_22 : decode cX12_comeIntoAll 22 = .ok (.invokevirtual 107, 3) := by decide +kernel
theorem dX12_comeIntoAll_25 : decode cX12_comeIntoAll 25 = .ok (.iinc 2 1, 3) := by decide +kernel
theorem dX12_comeIntoAll_28 : decode cX12_comeIntoAll 28 = .ok (.goto (-26), 3) := by decide +kernel
theorem dX12_comeIntoAll_31 : decode cX12_comeIntoAll 31 = .ok (.return_, 1) := by decide +kernel
theorem dX12_heightOf_0 : decode cX12_heightOf 0 = .ok (.iconst 0, 1) := by decide +kernel
theorem dX12_heightOf_1 : decode cX12_heightOf 1 = .ok (.istore_n 2, 1) := by decide +kernel
theorem dX12_heightOf_2 : decode cX12_heightOf 2 = .ok (.aload_n 0, 1) := by decide +kernel
theorem dX12_heightOf_3 : decode cX12_heightOf 3 = .ok (.getfield 39, 3) := by decide +kernel
theorem dX12_heightOf_6 : decode cX12_heightOf 6 = .ok (.iload_n 1, 1) := by decide +kernel
theorem dX12_heightOf_7 : decode cX12_heightOf 7 = .ok (.iaload, 1) := by decide +kernel
theorem dX12_heightOf_8 : decode cX12_heightOf 8 = .ok (.istore_n 3, 1) := by decide +kernel
theorem dX12_heightOf_9 : decode cX12_heightOf 9 = .ok (.iload_n 3, 1) := by decide +kernel
theorem dX12_heightOf_10 : decode cX12_heightOf 10 = .ok (.iconst 1, 1) := by decide +kernel
theorem dX12_heightOf_11 : decode cX12_heightOf 11 = .ok (.if_icmp .le 15, 3) := by decide +kernel
theorem dX12_heightOf_14 : decode cX12_heightOf 14 = .ok (.iinc 2 1, 3) := by decide +kernel
theorem dX12_heightOf_17 : decode cX12_heightOf 17 = .ok (.iload_n 3, 1) := by decide +kernel
theorem dX12_heightOf_18 : decode cX12_heightOf 18 = .ok (.iconst 3, 1) := by decide +kernel
theorem dX12_heightOf_19 : decode cX12_heightOf 19 = .ok (.iadd, 1) := by decide +kernel
theorem dX12_heightOf_20 : decode cX12_heightOf 20 = .ok (.iconst 4, 1) := by decide +kernel
theorem dX12_heightOf_21 : decode cX12_heightOf 21 = .ok (.idiv, 1) := by decide +kernel
theorem dX12_heightOf_22 : decode cX12_heightOf 22 = .ok (.istore_n 3, 1) := by decide +kernel
theorem dX12_heightOf_23 : decode cX12_heightOf 23 = .ok (.goto (-14), 3) := by decide +kernel
theorem dX12_heightOf_26 : decode cX12_heightOf 26 = .ok (.iload_n 2, 1) := by decide +kernel
theorem dX12_heightOf_27 : decode cX12_heightOf 27 = .ok (.ireturn, 1) := by decide +kernel
theorem dX12_sizeOf_0 : decode cX12_sizeOf 0 = .ok (.aload_n 0, 1) := by decide +kernel
theorem dX12_sizeOf_1 : decode cX12_sizeOf 1 = .ok (.getfield 39, 3) := by decide +kernel
theorem dX12_sizeOf_4 : decode cX12_sizeOf 4 = .ok (.iload_n 1, 1) := by decide +kernel
theorem dX12_sizeOf_5 : decode cX12_sizeOf 5 = .ok (.iaload, 1) := by decide +kernel
theorem dX12_sizeOf_6 : decode cX12_sizeOf 6 = .ok (.istore_n 2, 1) := by decide +kernel
theorem dX12_sizeOf_7 : decode cX12_sizeOf 7 = .ok (.aload_n 0, 1) := by decide +kernel
theorem dX12_sizeOf_8 : decode cX12_sizeOf 8 = .ok (.getfield 39, 3) := by decide +kernel
theorem dX12_sizeOf_11 : decode cX12_sizeOf 11 = .ok (.iload_n 1, 1) := by decide +kernel
theorem dX12_sizeOf_12 : decode cX12_sizeOf 12 = .ok (.iaload, 1) := by decide +kernel
theorem dX12_sizeOf_13 : decode cX12_sizeOf 13 = .ok (.istore_n 3, 1) := by decide +kernel
theorem dX12_sizeOf_14 : decode cX12_sizeOf 14 = .ok (.iload_n 3, 1) := by decide +kernel
theorem dX12_sizeOf_15 : decode cX12_sizeOf 15 = .ok (.iconst 1, 1) := by decide +kernel
theorem dX12_sizeOf_16 : decode cX12_sizeOf 16 = .ok (.if_icmp .le 16, 3) := by decide +kernel
theorem dX12_sizeOf_19 : decode cX12_sizeOf 19 = .ok (.iload_n 3, 1) := by decide +kernel
theorem dX12_sizeOf_20 : decode cX12_sizeOf 20 = .ok (.iconst 3, 1) := by decide +kernel
theorem dX12_sizeOf_21 : decode cX12_sizeOf 21 = .ok (.iadd, 1) := by decide +kernel
theorem dX12_sizeOf_22 : decode cX12_sizeOf 22 = .ok (.iconst 4, 1) := by decide +kernel
theorem dX12_sizeOf_23 : decode cX12_sizeOf 23 = .ok (.idiv, 1) := by decide +kernel
theorem dX12_sizeOf_24 : decode cX12_sizeOf 24 = .ok (.istore_n 3, 1) := by decide +kernel
theorem dX12_sizeOf_25 : decode cX12_sizeOf 25 = .ok (.iload_n 2, 1) := by decide +kernel
theorem dX12_sizeOf_26 : decode cX12_sizeOf 26 = .ok (.iload_n 3, 1) := by decide +kernel
theorem dX12_sizeOf_27 : decode cX12_sizeOf 27 = .ok (.iadd, 1) := by decide +kernel
theorem dX12_sizeOf_28 : decode cX12_sizeOf 28 = .ok (.istore_n 2, 1) := by decide +kernel
theorem dX12_sizeOf_29 : decode cX12_sizeOf 29 = .ok (.goto (-15), 3) := by decide +kernel
theorem dX12_sizeOf_32 : decode cX12_sizeOf 32 = .ok (.iload_n 2, 1) := by decide +kernel
theorem dX12_sizeOf_33 : decode cX12_sizeOf 33 = .ok (.ireturn, 1) := by decide +kernel
theorem dX12_order_0 : decode cX12_order 0 = .ok (.iload_n 1, 1) := by decide +kernel
theorem dX12_order_1 : decode cX12_order 1 = .ok (.invokestatic 110, 3) := by decide +kernel
theorem dX12_order_4 : decode cX12_order 4 = .ok (.ifCond .ne 6, 3) := by decide +kernel
theorem dX12_order_7 : decode cX12_order 7 = .ok (.bipush (-102), 2) := by decide +kernel
theorem dX12_order_9 : decode cX12_order 9 = .ok (.ireturn, 1) := by decide +kernel
theorem dX12_order_10 : decode cX12_order 10 = .ok (.iconst 0, 1) := by decide +kernel
theorem dX12_order_11 : decode cX12_order 11 = .ok (.istore_n 2, 1) := by decide +kernel
theorem dX12_order_12 : decode cX12_order 12 = .ok (.iload_n 2, 1) := by decide +kernel
theorem dX12_order_13 : decode cX12_order 13 = .ok (.aload_n 0, 1) := by decide +kernel
theorem dX12_order_14 : decode cX12_order 14 = .ok (.getfield 94, 3) := by decide +kernel
theorem dX12_order_17 : decode cX12_order 17 = .ok (.if_icmp .ge 31, 3) := by decide +kernel
theorem dX12_order_20 : decode cX12_order 20 = .ok (.aload_n 0, 1) := by decide +kernel
theorem dX12_order_21 : decode cX12_order 21 = .ok (.getfield 24, 3) := by decide +kernel
theorem dX12_order_24 : decode cX12_order 24 = .ok (.iload_n 2, 1) := by decide +kernel
theorem dX12_order_25 : decode cX12_order 25 = .ok (.baload, 1) := by decide +kernel
theorem dX12_order_26 : decode cX12_order 26 = .ok (.ifCond .ne 16, 3) := by decide +kernel
theorem dX12_order_29 : decode cX12_order 29 = .ok (.aload_n 0, 1) := by decide +kernel
theorem dX12_order_30 : decode cX12_order 30 = .ok (.getfield 21, 3) := by decide +kernel
theorem dX12_order_33 : decode cX12_order 33 = .ok (.iload_n 2, 1) := by decide +kernel
theorem dX12_order_34 : decode cX12_order 34 = .ok (.iaload, 1) := by decide +kernel
theorem dX12_order_35 : decode cX12_order 35 = .ok (.iload_n 1, 1) := by decide +kernel
theorem dX12_order_36 : decode cX12_order 36 = .ok (.if_icmp .ne 6, 3) := by decide +kernel
theorem dX12_order_39 : decode cX12_order 39 = .ok (.bipush (-103), 2) := by decide +kernel
theorem dX12_order_41 : decode cX12_order 41 = .ok (.ireturn, 1) := by decide +kernel
theorem dX12_order_42 : decode cX12_order 42 = .ok (.iinc 2 1, 3) := by decide +kernel
theorem dX12_order_45 : decode cX12_order 45 = .ok (.goto (-33), 3) := by decide +kernel
theorem dX12_order_48 : decode cX12_order 48 = .ok (.aload_n 0, 1) := by decide +kernel
theorem dX12_order_49 : decode cX12_order 49 = .ok (.getfield 94, 3) := by decide +kernel
theorem dX12_order_52 : decode cX12_order 52 = .ok (.bipush 8, 2) := by decide +kernel
theorem dX12_order_54 : decode cX12_order 54 = .ok (.if_icmp .ne 6, 3) := by decide +kernel
theorem dX12_order_57 : decode cX12_order 57 = .ok (.bipush (-104), 2) := by decide +kernel
theorem dX12_order_59 : decode cX12_order 59 = .ok (.ireturn, 1) := by decide +kernel
theorem dX12_order_60 : decode cX12_order 60 = .ok (.aload_n 0, 1) := by decide +kernel
theorem dX12_order_61 : decode cX12_order 61 = .ok (.getfield 21, 3) := by decide +kernel
theorem dX12_order_64 : decode cX12_order 64 = .ok (.aload_n 0, 1) := by decide +kernel
theorem dX12_order_65 : decode cX12_order 65 = .ok (.getfield 94, 3) := by decide +kernel
theorem dX12_order_68 : decode cX12_order 68 = .ok (.iload_n 1, 1) := by decide +kernel
theorem dX12_order_69 : decode cX12_order 69 = .ok (.iastore, 1) := by decide +kernel
theorem dX12_order_70 : decode cX12_order 70 = .ok (.aload_n 0, 1) := by decide +kernel
theorem dX12_order_71 : decode cX12_order 71 = .ok (.getfield 24, 3) := by decide +kernel
theorem dX12_order_74 : decode cX12_order 74 = .ok (.aload_n 0, 1) := by decide +kernel
theorem dX12_order_75 : decode cX12_order 75 = .ok (.getfield 94, 3) := by decide +kernel
theorem dX12_order_78 : decode cX12_order 78 = .ok (.iconst 0, 1) := by decide +kernel
theorem dX12_order_79 : decode cX12_order 79 = .ok (.bastore, 1) := by decide +kernel
theorem dX12_order_80 : decode cX12_order 80 = .ok (.aload_n 0, 1) := by decide +kernel
theorem dX12_order_81 : decode cX12_order 81 = .ok (.getfield 27, 3) := by decide +kernel
theorem dX12_order_84 : decode cX12_order 84 = .ok (.aload_n 0, 1) := by decide +kernel
theorem dX12_order_85 : decode cX12_order 85 = .ok (.getfield 94, 3) := by decide +kernel
theorem dX12_order_88 : decode cX12_order 88 = .ok (.iconst 0, 1) := by decide +kernel
theorem dX12_order_89 : decode cX12_order 89 = .ok (.iastore, 1) := by decide +kernel
theorem dX12_order_90 : decode cX12_order 90 = .ok (.aload_n 0, 1) := by decide +kernel
theorem dX12_order_91 : decode cX12_order 91 = .ok (.aload_n 0, 1) := by decide +kernel
theorem dX12_order_92 : decode cX12_order 92 = .ok (.getfield 94, 3) := by decide +kernel
theorem dX12_order_95 : decode cX12_order 95 = .ok (.invokevirtual 114, 3) := by decide +kernel
theorem dX12_order_98 : decode cX12_order 98 = .ok (.aload_n 0, 1) := by decide +kernel
theorem dX12_order_99 : decode cX12_order 99 = .ok (.dup, 1) := by decide +kernel
theorem dX12_order_100 : decode cX12_order 100 = .ok (.getfield 94, 3) := by decide +kernel
theorem dX12_order_103 : decode cX12_order 103 = .ok (.iconst 1, 1) := by decide +kernel
theorem dX12_order_104 : decode cX12_order 104 = .ok (.iadd, 1) := by decide +kernel
theorem dX12_order_105 : decode cX12_order 105 = .ok (.putfield 94, 3) := by decide +kernel
theorem dX12_order_108 : decode cX12_order 108 = .ok (.aload_n 0, 1) := by decide +kernel
theorem dX12_order_109 : decode cX12_order 109 = .ok (.getfield 94, 3) := by decide +kernel
theorem dX12_order_112 : decode cX12_order 112 = .ok (.iconst 1, 1) := by decide +kernel
theorem dX12_order_113 : decode cX12_order 113 = .ok (.isub, 1) := by decide +kernel
theorem dX12_order_114 : decode cX12_order 114 = .ok (.ireturn, 1) := by decide +kernel
theorem dX12_lose_0 : decode cX12_lose 0 = .ok (.aload_n 0, 1) := by decide +kernel
theorem dX12_lose_1 : decode cX12_lose 1 = .ok (.iload_n 1, 1) := by decide +kernel
theorem dX12_lose_2 : decode cX12_lose 2 = .ok (.invokevirtual 118, 3) := by decide +kernel
theorem dX12_lose_5 : decode cX12_lose 5 = .ok (.ifCond .ne 6, 3) := by decide +kernel
theorem dX12_lose_8 : decode cX12_lose 8 = .ok (.bipush (-101), 2) := by decide +kernel
theorem dX12_lose_10 : decode cX12_lose 10 = .ok (.ireturn, 1) := by decide +kernel
theorem dX12_lose_11 : decode cX12_lose 11 = .ok (.aload_n 0, 1) := by decide +kernel
theorem dX12_lose_12 : decode cX12_lose 12 = .ok (.getfield 24, 3) := by decide +kernel
theorem dX12_lose_15 : decode cX12_lose 15 = .ok (.iload_n 1, 1) := by decide +kernel
theorem dX12_lose_16 : decode cX12_lose 16 = .ok (.iconst 1, 1) := by decide +kernel
theorem dX12_lose_17 : decode cX12_lose 17 = .ok (.bastore, 1) := by decide +kernel
theorem dX12_lose_18 : decode cX12_lose 18 = .ok (.aload_n 0, 1) := by decide +kernel
theorem dX12_lose_19 : decode cX12_lose 19 = .ok (.iload_n 1, 1) := by decide +kernel
theorem dX12_lose_20 : decode cX12_lose 20 = .ok (.invokevirtual 121, 3) := by decide +kernel
theorem dX12_lose_23 : decode cX12_lose 23 = .ok (.ireturn, 1) := by decide +kernel
theorem dX12_pack_0 : decode cX12_pack 0 = .ok (.aload_n 0, 1) := by decide +kernel
theorem dX12_pack_1 : decode cX12_pack 1 = .ok (.iload_n 1, 1) := by decide +kernel
theorem dX12_pack_2 : decode cX12_pack 2 = .ok (.invokevirtual 118, 3) := by decide +kernel
theorem dX12_pack_5 : decode cX12_pack 5 = .ok (.ifCond .ne 6, 3) := by decide +kernel
theorem dX12_pack_8 : decode cX12_pack 8 = .ok (.bipush (-101), 2) := by decide +kernel
theorem dX12_pack_10 : decode cX12_pack 10 = .ok (.ireturn, 1) := by decide +kernel
theorem dX12_pack_11 : decode cX12_pack 11 = .ok (.aload_n 0, 1) := by decide +kernel
theorem dX12_pack_12 : decode cX12_pack 12 = .ok (.iload_n 1, 1) := by decide +kernel
theorem dX12_pack_13 : decode cX12_pack 13 = .ok (.invokevirtual 121, 3) := by decide +kernel
theorem dX12_pack_16 : decode cX12_pack 16 = .ok (.istore_n 2, 1) := by decide +kernel
theorem dX12_pack_17 : decode cX12_pack 17 = .ok (.aload_n 0, 1) := by decide +kernel
theorem dX12_pack_18 : decode cX12_pack 18 = .ok (.iload_n 1, 1) := by decide +kernel
theorem dX12_pack_19 : decode cX12_pack 19 = .ok (.invokevirtual 114, 3) := by decide +kernel
theorem dX12_pack_22 : decode cX12_pack 22 = .ok (.iload_n 2, 1) := by decide +kernel
theorem dX12_pack_23 : decode cX12_pack 23 = .ok (.aload_n 0, 1) := by decide +kernel
theorem dX12_pack_24 : decode cX12_pack 24 = .ok (.iload_n 1, 1) := by decide +kernel
theorem dX12_pack_25 : decode cX12_pack 25 = .ok (.invokevirtual 121, 3) := by decide +kernel
theorem dX12_pack_28 : decode cX12_pack 28 = .ok (.isub, 1) := by decide +kernel
theorem dX12_pack_29 : decode cX12_pack 29 = .ok (.ireturn, 1) := by decide +kernel
theorem dX12_aboutOf_0 : decode cX12_aboutOf 0 = .ok (.iload_n 2, 1) := by decide +kernel
theorem dX12_aboutOf_1 : decode cX12_aboutOf 1 = .ok (.ifCond .ne 12, 3) := by decide +kernel
theorem dX12_aboutOf_4 : decode cX12_aboutOf 4 = .ok (.aload_n 0, 1) := by decide +kernel
theorem dX12_aboutOf_5 : decode cX12_aboutOf 5 = .ok (.getfield 21, 3) := by decide +kernel
theorem dX12_aboutOf_8 : decode cX12_aboutOf 8 = .ok (.iload_n 1, 1) := by decide +kernel
theorem dX12_aboutOf_9 : decode cX12_aboutOf 9 = .ok (.iaload, 1) := by decide +kernel
theorem dX12_aboutOf_10 : decode cX12_aboutOf 10 = .ok (.goto 49, 3) := by decide +kernel
theorem dX12_aboutOf_13 : decode cX12_aboutOf 13 = .ok (.iload_n 2, 1) := by decide +kernel
theorem dX12_aboutOf_14 : decode cX12_aboutOf 14 = .ok (.iconst 1, 1) := by decide +kernel
theorem dX12_aboutOf_15 : decode cX12_aboutOf 15 = .ok (.if_icmp .ne 12, 3) := by decide +kernel
theorem dX12_aboutOf_18 : decode cX12_aboutOf 18 = .ok (.aload_n 0, 1) := by decide +kernel
theorem dX12_aboutOf_19 : decode cX12_aboutOf 19 = .ok (.getfield 39, 3) := by decide +kernel
theorem dX12_aboutOf_22 : decode cX12_aboutOf 22 = .ok (.iload_n 1, 1) := by decide +kernel
theorem dX12_aboutOf_23 : decode cX12_aboutOf 23 = .ok (.iaload, 1) := by decide +kernel
theorem dX12_aboutOf_24 : decode cX12_aboutOf 24 = .ok (.goto 35, 3) := by decide +kernel
theorem dX12_aboutOf_27 : decode cX12_aboutOf 27 = .ok (.iload_n 2, 1) := by decide +kernel
theorem dX12_aboutOf_28 : decode cX12_aboutOf 28 = .ok (.iconst 2, 1) := by decide +kernel
theorem dX12_aboutOf_29 : decode cX12_aboutOf 29 = .ok (.if_icmp .ne 11, 3) := by decide +kernel
theorem dX12_aboutOf_32 : decode cX12_aboutOf 32 = .ok (.aload_n 0, 1) := by decide +kernel
theorem dX12_aboutOf_33 : decode cX12_aboutOf 33 = .ok (.iload_n 1, 1) := by decide +kernel
theorem dX12_aboutOf_34 : decode cX12_aboutOf 34 = .ok (.invokevirtual 124, 3) := by decide +kernel
theorem dX12_aboutOf_37 : decode cX12_aboutOf 37 = .ok (.goto 22, 3) := by decide +kernel
theorem dX12_aboutOf_40 : decode cX12_aboutOf 40 = .ok (.iload_n 2, 1) := by decide +kernel
theorem dX12_aboutOf_41 : decode cX12_aboutOf 41 = .ok (.iconst 3, 1) := by decide +kernel
theorem dX12_aboutOf_42 : decode cX12_aboutOf 42 = .ok (.if_icmp .ne 11, 3) := by decide +kernel
theorem dX12_aboutOf_45 : decode cX12_aboutOf 45 = .ok (.aload_n 0, 1) := by decide +kernel
theorem dX12_aboutOf_46 : decode cX12_aboutOf 46 = .ok (.iload_n 1, 1) := by decide +kernel
theorem dX12_aboutOf_47 : decode cX12_aboutOf 47 = .ok (.invokevirtual 121, 3) := by decide +kernel
theorem dX12_aboutOf_50 : decode cX12_aboutOf 50 = .ok (.goto 9, 3) := by decide +kernel
theorem dX12_aboutOf_53 : decode cX12_aboutOf 53 = .ok (.aload_n 0, 1) := by decide +kernel
theorem dX12_aboutOf_54 : decode cX12_aboutOf 54 = .ok (.getfield 27, 3) := by decide +kernel
theorem dX12_aboutOf_57 : decode cX12_aboutOf 57 = .ok (.iload_n 1, 1) := by decide +kernel
theorem dX12_aboutOf_58 : decode cX12_aboutOf 58 = .ok (.iaload, 1) := by decide +kernel
theorem dX12_aboutOf_59 : decode cX12_aboutOf 59 = .ok (.ireturn, 1) := by decide +kernel
theorem dX12_about_0 : decode cX12_about 0 = .ok (.aload_n 0, 1) := by decide +kernel
theorem dX12_about_1 : decode cX12_about 1 = .ok (.iload_n 1, 1) := by decide +kernel
theorem dX12_about_2 : decode cX12_about 2 = .ok (.invokevirtual 118, 3) := by decide +kernel
theorem dX12_about_5 : decode cX12_about 5 = .ok (.ifCond .ne 8, 3) := by decide +kernel
theorem dX12_about_8 : decode cX12_about 8 = .ok (.bipush (-101), 2) := by decide +kernel
theorem dX12_about_10 : decode cX12_about 10 = .ok (.goto 23, 3) := by decide +kernel
theorem dX12_about_13 : decode cX12_about 13 = .ok (.iload_n 2, 1) := by decide +kernel
theorem dX12_about_14 : decode cX12_about 14 = .ok (.iconst 0, 1) := by decide +kernel
theorem dX12_about_15 : decode cX12_about 15 = .ok (.iconst 4, 1) := by decide +kernel
theorem dX12_about_16 : decode cX12_about 16 = .ok (.invokestatic 82, 3) := by decide +kernel
theorem dX12_about_19 : decode cX12_about 19 = .ok (.ifCond .eq 12, 3) := by decide +kernel
theorem dX12_about_22 : decode cX12_about 22 = .ok (.aload_n 0, 1) := by decide +kernel
theorem dX12_about_23 : decode cX12_about 23 = .ok (.iload_n 1, 1) := by decide +kernel
theorem dX12_about_24 : decode cX12_about 24 = .ok (.iload_n 2, 1) := by decide +kernel
theorem dX12_about_25 : decode cX12_about 25 = .ok (.invokevirtual 127, 3) := by decide +kernel
theorem dX12_about_28 : decode cX12_about 28 = .ok (.goto 5, 3) := by decide +kernel
theorem dX12_about_31 : decode cX12_about 31 = .ok (.bipush (-102), 2) := by decide +kernel
theorem dX12_about_33 : decode cX12_about 33 = .ok (.ireturn, 1) := by decide +kernel
theorem dX12_entry_0 : decode cX12_entry 0 = .ok (.aload_n 0, 1) := by decide +kernel
theorem dX12_entry_1 : decode cX12_entry 1 = .ok (.iload_n 1, 1) := by decide +kernel
theorem dX12_entry_2 : decode cX12_entry 2 = .ok (.invokevirtual 118, 3) := by decide +kernel
theorem dX12_entry_5 : decode cX12_entry 5 = .ok (.ifCond .ne 6, 3) := by decide +kernel
theorem dX12_entry_8 : decode cX12_entry 8 = .ok (.bipush (-101), 2) := by decide +kernel
theorem dX12_entry_10 : decode cX12_entry 10 = .ok (.ireturn, 1) := by decide +kernel
theorem dX12_entry_11 : decode cX12_entry 11 = .ok (.iload_n 2, 1) := by decide +kernel
theorem dX12_entry_12 : decode cX12_entry 12 = .ok (.iconst 0, 1) := by decide +kernel
theorem dX12_entry_13 : decode cX12_entry 13 = .ok (.aload_n 0, 1) := by decide +kernel
theorem dX12_entry_14 : decode cX12_entry 14 = .ok (.getfield 33, 3) := by decide +kernel
theorem dX12_entry_17 : decode cX12_entry 17 = .ok (.iload_n 1, 1) := by decide +kernel
theorem dX12_entry_18 : decode cX12_entry 18 = .ok (.iaload, 1) := by decide +kernel
theorem dX12_entry_19 : decode cX12_entry 19 = .ok (.iconst 1, 1) := by decide +kernel
theorem dX12_entry_20 : decode cX12_entry 20 = .ok (.isub, 1) := by decide +kernel
theorem dX12_entry_21 : decode cX12_entry 21 = .ok (.invokestatic 82, 3) := by decide +kernel
theorem dX12_entry_24 : decode cX12_entry 24 = .ok (.ifCond .eq 17, 3) := by decide +kernel
theorem dX12_entry_27 : decode cX12_entry 27 = .ok (.aload_n 0, 1) := by decide +kernel
theorem dX12_entry_28 : decode cX12_entry 28 = .ok (.getfield 30, 3) := by decide +kernel
theorem dX12_entry_31 : decode cX12_entry 31 = .ok (.bipush 64, 2) := by decide +kernel
theorem dX12_entry_33 : decode cX12_entry 33 = .ok (.iload_n 1, 1) := by decide +kernel
theorem dX12_entry_34 : decode cX12_entry 34 = .ok (.imul, 1) := by decide +kernel
theorem dX12_entry_35 : decode cX12_entry 35 = .ok (.iload_n 2, 1) := by decide +kernel
theorem dX12_entry_36 : decode cX12_entry 36 = .ok (.iadd, 1) := by decide +kernel
theorem dX12_entry_37 : decode cX12_entry 37 = .ok (.iaload, 1) := by decide +kernel
theorem dX12_entry_38 : decode cX12_entry 38 = .ok (.goto 4, 3) := by decide +kernel
theorem dX12_entry_41 : decode cX12_entry 41 = .ok (.iconst (-1), 1) := by decide +kernel
theorem dX12_entry_42 : decode cX12_entry 42 = .ok (.ireturn, 1) := by decide +kernel
theorem dX12_leaf_0 : decode cX12_leaf 0 = .ok (.aload_n 0, 1) := by decide +kernel
theorem dX12_leaf_1 : decode cX12_leaf 1 = .ok (.iload_n 1, 1) := by decide +kernel
theorem dX12_leaf_2 : decode cX12_leaf 2 = .ok (.invokevirtual 118, 3) := by decide +kernel
theorem dX12_leaf_5 : decode cX12_leaf 5 = .ok (.ifCond .ne 6, 3) := by decide +kernel
theorem dX12_leaf_8 : decode cX12_leaf 8 = .ok (.bipush (-101), 2) := by decide +kernel
theorem dX12_leaf_10 : decode cX12_leaf 10 = .ok (.ireturn, 1) := by decide +kernel
theorem dX12_leaf_11 : decode cX12_leaf 11 = .ok (.iload_n 2, 1) := by decide +kernel
theorem dX12_leaf_12 : decode cX12_leaf 12 = .ok (.iconst 0, 1) := by decide +kernel
theorem dX12_leaf_13 : decode cX12_leaf 13 = .ok (.aload_n 0, 1) := by decide +kernel
theorem dX12_leaf_14 : decode cX12_leaf 14 = .ok (.getfield 39, 3) := by decide +kernel
theorem dX12_leaf_17 : decode cX12_leaf 17 = .ok (.iload_n 1, 1) := by decide +kernel
theorem dX12_leaf_18 : decode cX12_leaf 18 = .ok (.iaload, 1) := by decide +kernel
theorem dX12_leaf_19 : decode cX12_leaf 19 = .ok (.iconst 1, 1) := by decide +kernel
theorem dX12_leaf_20 : decode cX12_leaf 20 = .ok (.isub, 1) := by decide +kernel
theorem dX12_leaf_21 : decode cX12_leaf 21 = .ok (.invokestatic 82, 3) := by decide +kernel
theorem dX12_leaf_24 : decode cX12_leaf 24 = .ok (.ifCond .eq 17, 3) := by decide +kernel
theorem dX12_leaf_27 : decode cX12_leaf 27 = .ok (.aload_n 0, 1) := by decide +kernel
theorem dX12_leaf_28 : decode cX12_leaf 28 = .ok (.getfield 36, 3) := by decide +kernel
theorem dX12_leaf_31 : decode cX12_leaf 31 = .ok (.bipush 64, 2) := by decide +kernel
theorem dX12_leaf_33 : decode cX12_leaf 33 = .ok (.iload_n 1, 1) := by decide +kernel
theorem dX12_leaf_34 : decode cX12_leaf 34 = .ok (.imul, 1) := by decide +kernel
theorem dX12_leaf_35 : decode cX12_leaf 35 = .ok (.iload_n 2, 1) := by decide +kernel
theorem dX12_leaf_36 : decode cX12_leaf 36 = .ok (.iadd, 1) := by decide +kernel
theorem dX12_leaf_37 : decode cX12_leaf 37 = .ok (.iaload, 1) := by decide +kernel
theorem dX12_leaf_38 : decode cX12_leaf 38 = .ok (.goto 4, 3) := by decide +kernel
theorem dX12_leaf_41 : decode cX12_leaf 41 = .ok (.iconst (-1), 1) := by decide +kernel
theorem dX12_leaf_42 : decode cX12_leaf 42 = .ok (.ireturn, 1) := by decide +kernel
theorem dX12_lay_0 : decode cX12_lay 0 = .ok (.aload_n 0, 1) := by decide +kernel
theorem dX12_lay_1 : decode cX12_lay 1 = .ok (.getfield 7, 3) := by decide +kernel
theorem dX12_lay_4 : decode cX12_lay 4 = .ok (.iload_n 1, 1) := by decide +kernel
theorem dX12_lay_5 : decode cX12_lay 5 = .ok (.iconst 1, 1) := by decide +kernel
theorem dX12_lay_6 : decode cX12_lay 6 = .ok (.bastore, 1) := by decide +kernel
theorem dX12_lay_7 : decode cX12_lay 7 = .ok (.aload_n 0, 1) := by decide +kernel
theorem dX12_lay_8 : decode cX12_lay 8 = .ok (.getfield 13, 3) := by decide +kernel
theorem dX12_lay_11 : decode cX12_lay 11 = .ok (.iconst 4, 1) := by decide +kernel
theorem dX12_lay_12 : decode cX12_lay 12 = .ok (.iload_n 1, 1) := by decide +kernel
theorem dX12_lay_13 : decode cX12_lay 13 = .ok (.imul, 1) := by decide +kernel
theorem dX12_lay_14 : decode cX12_lay 14 = .ok (.iload_n 2, 1) := by decide +kernel
theorem dX12_lay_15 : decode cX12_lay 15 = .ok (.iastore, 1) := by decide +kernel
theorem dX12_lay_16 : decode cX12_lay 16 = .ok (.aload_n 0, 1) := by decide +kernel
theorem dX12_lay_17 : decode cX12_lay 17 = .ok (.getfield 13, 3) := by decide +kernel
theorem dX12_lay_20 : decode cX12_lay 20 = .ok (.iconst 4, 1) := by decide +kernel
theorem dX12_lay_21 : decode cX12_lay 21 = .ok (.iload_n 1, 1) := by decide +kernel
theorem dX12_lay_22 : decode cX12_lay 22 = .ok (.imul, 1) := by decide +kernel
theorem dX12_lay_23 : decode cX12_lay 23 = .ok (.iconst 1, 1) := by decide +kernel
theorem dX12_lay_24 : decode cX12_lay 24 = .ok (.iadd, 1) := by decide +kernel
theorem dX12_lay_25 : decode cX12_lay 25 = .ok (.iload_n 3, 1) := by decide +kernel
theorem dX12_lay_26 : decode cX12_lay 26 = .ok (.iastore, 1) := by decide +kernel
theorem dX12_lay_27 : decode cX12_lay 27 = .ok (.aload_n 0, 1) := by decide +kernel
theorem dX12_lay_28 : decode cX12_lay 28 = .ok (.getfield 13, 3) := by decide +kernel
theorem dX12_lay_31 : decode cX12_lay 31 = .ok (.iconst 4, 1) := by decide +kernel
theorem dX12_lay_32 : decode cX12_lay 32 = .ok (.iload_n 1, 1) := by decide +kernel
theorem dX12_lay_33 : decode cX12_lay 33 = .ok (.imul, 1) := by decide +kernel
theorem dX12_lay_34 : decode cX12_lay 34 = .ok (.iconst 2, 1) := by decide +kernel
theorem dX12_lay_35 : decode cX12_lay 35 = .ok (.iadd, 1) := by decide +kernel
theorem dX12_lay_36 : decode cX12_lay 36 = .ok (.iload 4, 2) := by decide +kernel
theorem dX12_lay_38 : decode cX12_lay 38 = .ok (.iastore, 1) := by decide +kernel
theorem dX12_lay_39 : decode cX12_lay 39 = .ok (.aload_n 0, 1) := by decide +kernel
theorem dX12_lay_40 : decode cX12_lay 40 = .ok (.getfield 13, 3) := by decide +kernel
theorem dX12_lay_43 : decode cX12_lay 43 = .ok (.iconst 4, 1) := by decide +kernel
theorem dX12_lay_44 : decode cX12_lay 44 = .ok (.iload_n 1, 1) := by decide +kernel
theorem dX12_lay_45 : decode cX12_lay 45 = .ok (.imul, 1) := by decide +kernel
theorem dX12_lay_46 : decode cX12_lay 46 = .ok (.iconst 3, 1) := by decide +kernel
theorem dX12_lay_47 : decode cX12_lay 47 = .ok (.iadd, 1) := by decide +kernel
theorem dX12_lay_48 : decode cX12_lay 48 = .ok (.iload 5, 2) := by decide +kernel
theorem dX12_lay_50 : decode cX12_lay 50 = .ok (.iastore, 1) := by decide +kernel
theorem dX12_lay_51 : decode cX12_lay 51 = .ok (.aload_n 0, 1) := by decide +kernel
theorem dX12_lay_52 : decode cX12_lay 52 = .ok (.dup, 1) := by decide +kernel
theorem dX12_lay_53 : decode cX12_lay 53 = .ok (.getfield 130, 3) := by decide +kernel
theorem dX12_lay_56 : decode cX12_lay 56 = .ok (.iconst 1, 1) := by decide +kernel
theorem dX12_lay_57 : decode cX12_lay 57 = .ok (.iadd, 1) := by decide +kernel
theorem dX12_lay_58 : decode cX12_lay 58 = .ok (.putfield 130, 3) := by decide +kernel
theorem dX12_lay_61 : decode cX12_lay 61 = .ok (.aload_n 0, 1) := by decide +kernel
theorem dX12_lay_62 : decode cX12_lay 62 = .ok (.iload_n 1, 1) := by decide +kernel
theorem dX12_lay_63 : decode cX12_lay 63 = .ok (.invokevirtual 133, 3) := by decide +kernel
theorem dX12_lay_66 : decode cX12_lay 66 = .ok (.return_, 1) := by decide +kernel
theorem dX12_emptySlot_0 : decode cX12_emptySlot 0 = .ok (.iconst 0, 1) := by decide +kernel
theorem dX12_emptySlot_1 : decode cX12_emptySlot 1 = .ok (.istore_n 1, 1) := by decide +kernel
theorem dX12_emptySlot_2 : decode cX12_emptySlot 2 = .ok (.aload_n 0, 1) := by decide +kernel
theorem dX12_emptySlot_3 : decode cX12_emptySlot 3 = .ok (.getfield 7, 3) := by decide +kernel
theorem dX12_emptySlot_6 : decode cX12_emptySlot 6 = .ok (.iload_n 1, 1) := by decide +kernel
theorem dX12_emptySlot_7 : decode cX12_emptySlot 7 = .ok (.baload, 1) := by decide +kernel
theorem dX12_emptySlot_8 : decode cX12_emptySlot 8 = .ok (.ifCond .eq 9, 3) := by decide +kernel
theorem dX12_emptySlot_11 : decode cX12_emptySlot 11 = .ok (.iinc 1 1, 3) := by decide +kernel
theorem dX12_emptySlot_14 : decode cX12_emptySlot 14 = .ok (.goto (-12), 3) := by decide +kernel
theorem dX12_emptySlot_17 : decode cX12_emptySlot 17 = .ok (.iload_n 1, 1) := by decide +kernel
theorem dX12_emptySlot_18 : decode cX12_emptySlot 18 = .ok (.ireturn, 1) := by decide +kernel
theorem dX12_row_0 : decode cX12_row 0 = .ok (.iload_n 1, 1) := by decide +kernel
theorem dX12_row_1 : decode cX12_row 1 = .ok (.invokestatic 136, 3) := by decide +kernel
theorem dX12_row_4 : decode cX12_row 4 = .ok (.ifCond .eq 25, 3) := by decide +kernel
theorem dX12_row_7 : decode cX12_row 7 = .ok (.iload_n 2, 1) := by decide +kernel
theorem dX12_row_8 : decode cX12_row 8 = .ok (.invokestatic 136, 3) := by decide +kernel
theorem dX12_row_11 : decode cX12_row 11 = .ok (.ifCond .eq 18, 3) := by decide +kernel
theorem dX12_row_14 : decode cX12_row 14 = .ok (.iload_n 3, 1) := by decide +kernel
theorem dX12_row_15 : decode cX12_row 15 = .ok (.invokestatic 136, 3) := by decide +kernel
theorem dX12_row_18 : decode cX12_row 18 = .ok (.ifCond .eq 11, 3) := by decide +kernel
theorem dX12_row_21 : decode cX12_row 21 = .ok (.iload 4, 2) := by decide +kernel
theorem dX12_row_23 : decode cX12_row 23 = .ok (.invokestatic 136, 3) := by decide +kernel
theorem dX12_row_26 : decode cX12_row 26 = .ok (.ifCond .ne 6, 3) := by decide +kernel
theorem dX12_row_29 : decode cX12_row 29 = .ok (.bipush (-102), 2) := by decide +kernel
theorem dX12_row_31 : decode cX12_row 31 = .ok (.ireturn, 1) := by decide +kernel
theorem dX12_row_32 : decode cX12_row 32 = .ok (.aload_n 0, 1) := by decide +kernel
theorem dX12_row_33 : decode cX12_row 33 = .ok (.getfield 130, 3) := by decide +kernel
theorem dX12_row_36 : decode cX12_row 36 = .ok (.bipush 64, 2) := by decide +kernel
theorem dX12_row_38 : decode cX12_row 38 = .ok (.if_icmp .ne 6, 3) := by decide +kernel
theorem dX12_row_41 : decode cX12_row 41 = .ok (.bipush (-104), 2) := by decide +kernel
theorem dX12_row_43 : decode cX12_row 43 = .ok (.ireturn, 1) := by decide +kernel
theorem dX12_row_44 : decode cX12_row 44 = .ok (.aload_n 0, 1) := by decide +kernel
theorem dX12_row_45 : decode cX12_row 45 = .ok (.invokevirtual 139, 3) := by decide +kernel
theorem dX12_row_48 : decode cX12_row 48 = .ok (.istore 5, 2) := by decide +kernel
theorem dX12_row_50 : decode cX12_row 50 = .ok (.aload_n 0, 1) := by decide +kernel
theorem dX12_row_51 : decode cX12_row 51 = .ok (.iload 5, 2) := by decide +kernel
theorem dX12_row_53 : decode cX12_row 53 = .ok (.iload_n 1, 1) := by decide +kernel
theorem dX12_row_54 : decode cX12_row 54 = .ok (.iload_n 2, 1) := by decide +kernel
theorem dX12_row_55 : decode cX12_row 55 = .ok (.iload_n 3, 1) := by decide +kernel
theorem dX12_row_56 : decode cX12_row 56 = .ok (.iload 4, 2) := by decide +kernel
theorem dX12_row_58 : decode cX12_row 58 = .ok (.invokevirtual 143, 3) := by decide +kernel
theorem dX12_row_61 : decode cX12_row 61 = .ok (.iload 5, 2) := by decide +kernel
theorem dX12_row_63 : decode cX12_row 63 = .ok (.ireturn, 1) := by decide +kernel
theorem dX12_set_0 : decode cX12_set 0 = .ok (.aload_n 0, 1) := by decide +kernel
theorem dX12_set_1 : decode cX12_set 1 = .ok (.iload_n 1, 1) := by decide +kernel
theorem dX12_set_2 : decode cX12_set 2 = .ok (.invokevirtual 147, 3) := by decide +kernel
theorem dX12_set_5 : decode cX12_set 5 = .ok (.ifCond .eq 12, 3) := by decide +kernel
theorem dX12_set_8 : decode cX12_set 8 = .ok (.iload_n 2, 1) := by decide +kernel
theorem dX12_set_9 : decode cX12_set 9 = .ok (.iconst 0, 1) := by decide +kernel
theorem dX12_set_10 : decode cX12_set 10 = .ok (.iconst 3, 1) := by decide +kernel
theorem dX12_set_11 : decode cX12_set 11 = .ok (.invokestatic 82, 3) := by decide +kernel
theorem dX12_set_14 : decode cX12_set 14 = .ok (.ifCond .ne 6, 3) := by decide +kernel
theorem dX12_set_17 : decode cX12_set 17 = .ok (.bipush (-101), 2) := by decide +kernel
theorem dX12_set_19 : decode cX12_set 19 = .ok (.ireturn, 1) := by decide +kernel
theorem dX12_set_20 : decode cX12_set 20 = .ok (.iload_n 3, 1) := by decide +kernel
theorem dX12_set_21 : decode cX12_set 21 = .ok (.invokestatic 136, 3) := by decide +kernel
theorem dX12_set_24 : decode cX12_set 24 = .ok (.ifCond .ne 6, 3) := by decide +kernel
theorem dX12_set_27 : decode cX12_set 27 = .ok (.bipush (-102), 2) := by decide +kernel
theorem dX12_set_29 : decode cX12_set 29 = .ok (.ireturn, 1) := by decide +kernel
theorem dX12_set_30 : decode cX12_set 30 = .ok (.aload_n 0, 1) := by decide +kernel
theorem dX12_set_31 : decode cX12_set 31 = .ok (.getfield 13, 3) := by decide +kernel
theorem dX12_set_34 : decode cX12_set 34 = .ok (.iconst 4, 1) := by decide +kernel
theorem dX12_set_35 : decode cX12_set 35 = .ok (.iload_n 1, 1) := by decide +kernel
theorem dX12_set_36 : decode cX12_set 36 = .ok (.imul, 1) := by decide +kernel
theorem dX12_set_37 : decode cX12_set 37 = .ok (.iload_n 2, 1) := by decide +kernel
theorem dX12_set_38 : decode cX12_set 38 = .ok (.iadd, 1) := by decide +kernel
theorem dX12_set_39 : decode cX12_set 39 = .ok (.iaload, 1) := by decide +kernel
theorem dX12_set_40 : decode cX12_set 40 = .ok (.istore 4, 2) := by decide +kernel
theorem dX12_set_42 : decode cX12_set 42 = .ok (.iconst 0, 1) := by decide +kernel
theorem dX12_set_43 : decode cX12_set 43 = .ok (.istore 5, 2) := by decide +kernel
theorem dX12_set_45 : decode cX12_set 45 = .ok (.iload 5, 2) := by decide +kernel
theorem dX12_set_47 : decode cX12_set 47 = .ok (.aload_n 0, 1) := by decide +kernel
theorem dX12_set_48 : decode cX12_set 48 = .ok (.getfield 94, 3) := by decide +kernel
theorem dX12_set_51 : decode cX12_set 51 = .ok (.if_icmp .ge 26, 3) := by decide +kernel
theorem dX12_set_54 : decode cX12_set 54 = .ok (.aload_n 0, 1) := by decide +kernel
theorem dX12_set_55 : decode cX12_set 55 = .ok (.getfield 24, 3) := by decide +kernel
theorem dX12_set_58 : decode cX12_set 58 = .ok (.iload 5, 2) := by decide +kernel
theorem dX12_set_60 : decode cX12_set 60 = .ok (.baload, 1) := by decide +kernel
theorem dX12_set_61 : decode cX12_set 61 = .ok (.ifCond .ne 10, 3) := by decide +kernel
theorem dX12_set_64 : decode cX12_set 64 = .ok (.aload_n 0, 1) := by decide +kernel
theorem dX12_set_65 : decode cX12_set 65 = .ok (.iload 5, 2) := by decide +kernel
theorem dX12_set_67 : decode cX12_set 67 = .ok (.iload_n 1, 1) := by decide +kernel
theorem dX12_set_68 : decode cX12_set 68 = .ok (.invokevirtual 150, 3) := by decide +kernel
theorem dX12_set_71 : decode cX12_set 71 = .ok (.iinc 5 1, 3) := by decide +kernel
theorem dX12_set_74 : decode cX12_set 74 = .ok (.goto (-29), 3) := by decide +kernel
theorem dX12_set_77 : decode cX12_set 77 = .ok (.aload_n 0, 1) := by decide +kernel
theorem dX12_set_78 : decode cX12_set 78 = .ok (.getfield 13, 3) := by decide +kernel
theorem dX12_set_81 : decode cX12_set 81 = .ok (.iconst 4, 1) := by decide +kernel
theorem dX12_set_82 : decode cX12_set 82 = .ok (.iload_n 1, 1) := by decide +kernel
theorem dX12_set_83 : decode cX12_set 83 = .ok (.imul, 1) := by decide +kernel
theorem dX12_set_84 : decode cX12_set 84 = .ok (.iload_n 2, 1) := by decide +kernel
theorem dX12_set_85 : decode cX12_set 85 = .ok (.iadd, 1) := by decide +kernel
theorem dX12_set_86 : decode cX12_set 86 = .ok (.iload_n 3, 1) := by decide +kernel
theorem dX12_set_87 : decode cX12_set 87 = .ok (.iastore, 1) := by decide +kernel
theorem dX12_set_88 : decode cX12_set 88 = .ok (.aload_n 0, 1) := by decide +kernel
theorem dX12_set_89 : decode cX12_set 89 = .ok (.iload_n 1, 1) := by decide +kernel
theorem dX12_set_90 : decode cX12_set 90 = .ok (.invokevirtual 133, 3) := by decide +kernel
theorem dX12_set_93 : decode cX12_set 93 = .ok (.iload 4, 2) := by decide +kernel
theorem dX12_set_95 : decode cX12_set 95 = .ok (.ireturn, 1) := by decide +kernel
theorem dX12_drop_0 : decode cX12_drop 0 = .ok (.aload_n 0, 1) := by decide +kernel
theorem dX12_drop_1 : decode cX12_drop 1 = .ok (.iload_n 1, 1) := by decide +kernel
theorem dX12_drop_2 : decode cX12_drop 2 = .ok (.invokevirtual 147, 3) := by decide +kernel
theorem dX12_drop_5 : decode cX12_drop 5 = .ok (.ifCond .ne 6, 3) := by decide +kernel
theorem dX12_drop_8 : decode cX12_drop 8 = .ok (.bipush (-101), 2) := by decide +kernel
theorem dX12_drop_10 : decode cX12_drop 10 = .ok (.ireturn, 1) := by decide +kernel
theorem dX12_drop_11 : decode cX12_drop 11 = .ok (.iconst 0, 1) := by decide +kernel
theorem dX12_drop_12 : decode cX12_drop 12 = .ok (.istore_n 2, 1) := by decide +kernel
theorem dX12_drop_13 : decode cX12_drop 13 = .ok (.iload_n 2, 1) := by decide +kernel
theorem dX12_drop_14 : decode cX12_drop 14 = .ok (.aload_n 0, 1) := by decide +kernel
theorem dX12_drop_15 : decode cX12_drop 15 = .ok (.getfield 94, 3) := by decide +kernel
theorem dX12_drop_18 : decode cX12_drop 18 = .ok (.if_icmp .ge 24, 3) := by decide +kernel
theorem dX12_drop_21 : decode cX12_drop 21 = .ok (.aload_n 0, 1) := by decide +kernel
theorem dX12_drop_22 : decode cX12_drop 22 = .ok (.getfield 24, 3) := by decide +kernel
theorem dX12_drop_25 : decode cX12_drop 25 = .ok (.iload_n 2, 1) := by decide +kernel
theorem dX12_drop_26 : decode cX12_drop 26 = .ok (.baload, 1) := by decide +kernel
theorem dX12_drop_27 : decode cX12_drop 27 = .ok (.ifCond .ne 9, 3) := by decide +kernel
theorem dX12_drop_30 : decode cX12_drop 30 = .ok (.aload_n 0, 1) := by decide +kernel
theorem dX12_drop_31 : decode cX12_drop 31 = .ok (.iload_n 2, 1) := by decide +kernel
theorem dX12_drop_32 : decode cX12_drop 32 = .ok (.iload_n 1, 1) := by decide +kernel
theorem dX12_drop_33 : decode cX12_drop 33 = .ok (.invokevirtual 150, 3) := by decide +kernel
theorem dX12_drop_36 : decode cX12_drop 36 = .ok (.iinc 2 1, 3) := by decide +kernel
theorem dX12_drop_39 : decode cX12_drop 39 = .ok (.goto (-26), 3) := by decide +kernel
theorem dX12_drop_42 : decode cX12_drop 42 = .ok (.aload_n 0, 1) := by decide +kernel
theorem dX12_drop_43 : decode cX12_drop 43 = .ok (.getfield 7, 3) := by decide +kernel
theorem dX12_drop_46 : decode cX12_drop 46 = .ok (.iload_n 1, 1) := by decide +kernel
theorem dX12_drop_47 : decode cX12_drop 47 = .ok (.iconst 0, 1) := by decide +kernel
theorem dX12_drop_48 : decode cX12_drop 48 = .ok (.bastore, 1) := by decide +kernel
theorem dX12_drop_49 : decode cX12_drop 49 = .ok (.aload_n 0, 1) := by decide +kernel
theorem dX12_drop_50 : decode cX12_drop 50 = .ok (.dup, 1) := by decide +kernel
theorem dX12_drop_51 : decode cX12_drop 51 = .ok (.getfield 130, 3) := by decide +kernel
theorem dX12_drop_54 : decode cX12_drop 54 = .ok (.iconst 1, 1) := by decide +kernel
theorem dX12_drop_55 : decode cX12_drop 55 = .ok (.isub, 1) := by decide +kernel
theorem dX12_drop_56 : decode cX12_drop 56 = .ok (.putfield 130, 3) := by decide +kernel
theorem dX12_drop_59 : decode cX12_drop 59 = .ok (.aload_n 0, 1) := by decide +kernel
theorem dX12_drop_60 : decode cX12_drop 60 = .ok (.getfield 130, 3) := by decide +kernel
theorem dX12_drop_63 : decode cX12_drop 63 = .ok (.ireturn, 1) := by decide +kernel
theorem dX12_nextNumber_0 : decode cX12_nextNumber 0 = .ok (.aload_n 0, 1) := by decide +kernel
theorem dX12_nextNumber_1 : decode cX12_nextNumber 1 = .ok (.ldc2_w 153, 3) := by decide +kernel
theorem dX12_nextNumber_4 : decode cX12_nextNumber 4 = .ok (.aload_n 0, 1) := by decide +kernel
theorem dX12_nextNumber_5 : decode cX12_nextNumber 5 = .ok (.getfield 155, 3) := by decide +kernel
theorem dX12_nextNumber_8 : decode cX12_nextNumber 8 = .ok (.i2l, 1) := by decide +kernel
theorem dX12_nextNumber_9 : decode cX12_nextNumber 9 = .ok (.lmul, 1) := by decide +kernel
theorem dX12_nextNumber_10 : decode cX12_nextNumber 10 = .ok (.ldc2_w 158, 3) := by decide +kernel
theorem dX12_nextNumber_13 : decode cX12_nextNumber 13 = .ok (.ladd, 1) := by decide +kernel
theorem dX12_nextNumber_14 : decode cX12_nextNumber 14 = .ok (.ldc2_w 160, 3) := by decide +kernel
theorem dX12_nextNumber_17 : decode cX12_nextNumber 17 = .ok (.land, 1) := by decide +kernel
theorem dX12_nextNumber_18 : decode cX12_nextNumber 18 = .ok (.l2i, 1) := by decide +kernel
theorem dX12_nextNumber_19 : decode cX12_nextNumber 19 = .ok (.putfield 155, 3) := by decide +kernel
theorem dX12_nextNumber_22 : decode cX12_nextNumber 22 = .ok (.aload_n 0, 1) := by decide +kernel
theorem dX12_nextNumber_23 : decode cX12_nextNumber 23 = .ok (.getfield 155, 3) := by decide +kernel
theorem dX12_nextNumber_26 : decode cX12_nextNumber 26 = .ok (.ldc 162, 2) := by decide +kernel
theorem dX12_nextNumber_28 : decode cX12_nextNumber 28 = .ok (.idiv, 1) := by decide +kernel
theorem dX12_nextNumber_29 : decode cX12_nextNumber 29 = .ok (.iload_n 1, 1) := by decide +kernel
theorem dX12_nextNumber_30 : decode cX12_nextNumber 30 = .ok (.irem, 1) := by decide +kernel
theorem dX12_nextNumber_31 : decode cX12_nextNumber 31 = .ok (.ireturn, 1) := by decide +kernel
theorem dX12_fill_0 : decode cX12_fill 0 = .ok (.iload_n 1, 1) := by decide +kernel
theorem dX12_fill_1 : decode cX12_fill 1 = .ok (.ifCond .lt 23, 3) := by decide +kernel
theorem dX12_fill_4 : decode cX12_fill 4 = .ok (.iload_n 2, 1) := by decide +kernel
theorem dX12_fill_5 : decode cX12_fill 5 = .ok (.iconst 1, 1) := by decide +kernel
theorem dX12_fill_6 : decode cX12_fill 6 = .ok (.bipush 64, 2) := by decide +kernel
theorem dX12_fill_8 : decode cX12_fill 8 = .ok (.invokestatic 82, 3) := by decide +kernel
theorem dX12_fill_11 : decode cX12_fill 11 = .ok (.ifCond .eq 13, 3) := by decide +kernel
theorem dX12_fill_14 : decode cX12_fill 14 = .ok (.iload_n 3, 1) := by decide +kernel
theorem dX12_fill_15 : decode cX12_fill 15 = .ok (.iconst 1, 1) := by decide +kernel
theorem dX12_fill_16 : decode cX12_fill 16 = .ok (.bipush 100, 2) := by decide +kernel
theorem dX12_fill_18 : decode cX12_fill 18 = .ok (.invokestatic 82, 3) := by decide +kernel
theorem dX12_fill_21 : decode cX12_fill 21 = .ok (.ifCond .ne 6, 3) := by decide +kernel
theorem dX12_fill_24 : decode cX12_fill 24 = .ok (.bipush (-102), 2) := by decide +kernel
theorem dX12_fill_26 : decode cX12_fill 26 = .ok (.ireturn, 1) := by decide +kernel
theorem dX12_fill_27 : decode cX12_fill 27 = .ok (.aload_n 0, 1) := by decide +kernel
theorem dX12_fill_28 : decode cX12_fill 28 = .ok (.iload_n 1, 1) := by decide +kernel
theorem dX12_fill_29 : decode cX12_fill 29 = .ok (.putfield 155, 3) := by decide +kernel
theorem dX12_fill_32 : decode cX12_fill 32 = .ok (.iconst 0, 1) := by decide +kernel
theorem dX12_fill_33 : decode cX12_fill 33 = .ok (.istore 4, 2) := by decide +kernel
theorem dX12_fill_35 : decode cX12_fill 35 = .ok (.iload 4, 2) := by decide +kernel
theorem dX12_fill_37 : decode cX12_fill 37 = .ok (.iload_n 2, 1) := by decide +kernel
theorem dX12_fill_38 : decode cX12_fill 38 = .ok (.if_icmp .ge 62, 3) := by decide +kernel
theorem dX12_fill_41 : decode cX12_fill 41 = .ok (.aload_n 0, 1) := by decide +kernel
theorem dX12_fill_42 : decode cX12_fill 42 = .ok (.getfield 130, 3) := by decide +kernel
theorem dX12_fill_45 : decode cX12_fill 45 = .ok (.bipush 64, 2) := by decide +kernel
theorem dX12_fill_47 : decode cX12_fill 47 = .ok (.if_icmp .ge 53, 3) := by decide +kernel
theorem dX12_fill_50 : decode cX12_fill 50 = .ok (.aload_n 0, 1) := by decide +kernel
theorem dX12_fill_51 : decode cX12_fill 51 = .ok (.iload_n 3, 1) := by decide +kernel
theorem dX12_fill_52 : decode cX12_fill 52 = .ok (.invokevirtual 163, 3) := by decide +kernel
theorem dX12_fill_55 : decode cX12_fill 55 = .ok (.istore 5, 2) := by decide +kernel
theorem dX12_fill_57 : decode cX12_fill 57 = .ok (.aload_n 0, 1) := by decide +kernel
theorem dX12_fill_58 : decode cX12_fill 58 = .ok (.iload_n 3, 1) := by decide +kernel
theorem dX12_fill_59 : decode cX12_fill 59 = .ok (.invokevirtual 163, 3) := by decide +kernel
theorem dX12_fill_62 : decode cX12_fill 62 = .ok (.istore 6, 2) := by decide +kernel
theorem dX12_fill_64 : decode cX12_fill 64 = .ok (.aload_n 0, 1) := by decide +kernel
theorem dX12_fill_65 : decode cX12_fill 65 = .ok (.iload_n 3, 1) := by decide +kernel
theorem dX12_fill_66 : decode cX12_fill 66 = .ok (.invokevirtual 163, 3) := by decide +kernel
theorem dX12_fill_69 : decode cX12_fill 69 = .ok (.istore 7, 2) := by decide +kernel
theorem dX12_fill_71 : decode cX12_fill 71 = .ok (.aload_n 0, 1) := by decide +kernel
theorem dX12_fill_72 : decode cX12_fill 72 = .ok (.iload_n 3, 1) := by decide +kernel
theorem dX12_fill_73 : decode cX12_fill 73 = .ok (.invokevirtual 163, 3) := by decide +kernel
theorem dX12_fill_76 : decode cX12_fill 76 = .ok (.istore 8, 2) := by decide +kernel
theorem dX12_fill_78 : decode cX12_fill 78 = .ok (.aload_n 0, 1) := by decide +kernel
theorem dX12_fill_79 : decode cX12_fill 79 = .ok (.aload_n 0, 1) := by decide +kernel
theorem dX12_fill_80 : decode cX12_fill 80 = .ok (.invokevirtual 139, 3) := by decide +kernel
theorem dX12_fill_83 : decode cX12_fill 83 = .ok (.iload 5, 2) := by decide +kernel
theorem dX12_fill_85 : decode cX12_fill 85 = .ok (.iload 6, 2) := by decide +kernel
theorem dX12_fill_87 : decode cX12_fill 87 = .ok (.iload 7, 2) := by decide +kernel
theorem dX12_fill_89 : decode cX12_fill 89 = .ok (.iload 8, 2) := by decide +kernel
theorem dX12_fill_91 : decode cX12_fill 91 = .ok (.invokevirtual 143, 3) := by decide +kernel
theorem dX12_fill_94 : decode cX12_fill 94 = .ok (.iinc 4 1, 3) := by decide +kernel
theorem dX12_fill_97 : decode cX12_fill 97 = .ok (.goto (-62), 3) := by decide +kernel
theorem dX12_fill_100 : decode cX12_fill 100 = .ok (.iload 4, 2) := by decide +kernel
theorem dX12_fill_102 : decode cX12_fill 102 = .ok (.ireturn, 1) := by decide +kernel
theorem dX12_get_0 : decode cX12_get 0 = .ok (.iload_n 1, 1) := by decide +kernel
theorem dX12_get_1 : decode cX12_get 1 = .ok (.iconst 0, 1) := by decide +kernel
theorem dX12_get_2 : decode cX12_get 2 = .ok (.bipush 63, 2) := by decide +kernel
theorem dX12_get_4 : decode cX12_get 4 = .ok (.invokestatic 82, 3) := by decide +kernel
theorem dX12_get_7 : decode cX12_get 7 = .ok (.ifCond .eq 12, 3) := by decide +kernel
theorem dX12_get_10 : decode cX12_get 10 = .ok (.iload_n 2, 1) := by decide +kernel
theorem dX12_get_11 : decode cX12_get 11 = .ok (.iconst 0, 1) := by decide +kernel
theorem dX12_get_12 : decode cX12_get 12 = .ok (.iconst 3, 1) := by decide +kernel
theorem dX12_get_13 : decode cX12_get 13 = .ok (.invokestatic 82, 3) := by decide +kernel
theorem dX12_get_16 : decode cX12_get 16 = .ok (.ifCond .ne 6, 3) := by decide +kernel
theorem dX12_get_19 : decode cX12_get 19 = .ok (.bipush (-101), 2) := by decide +kernel
theorem dX12_get_21 : decode cX12_get 21 = .ok (.ireturn, 1) := by decide +kernel
theorem dX12_get_22 : decode cX12_get 22 = .ok (.aload_n 0, 1) := by decide +kernel
theorem dX12_get_23 : decode cX12_get 23 = .ok (.getfield 7, 3) := by decide +kernel
theorem dX12_get_26 : decode cX12_get 26 = .ok (.iload_n 1, 1) := by decide +kernel
theorem dX12_get_27 : decode cX12_get 27 = .ok (.baload, 1) := by decide +kernel
theorem dX12_get_28 : decode cX12_get 28 = .ok (.ifCond .eq 16, 3) := by decide +kernel
theorem dX12_get_31 : decode cX12_get 31 = .ok (.aload_n 0, 1) := by decide +kernel
theorem dX12_get_32 : decode cX12_get 32 = .ok (.getfield 13, 3) := by decide +kernel
theorem dX12_get_35 : decode cX12_get 35 = .ok (.iconst 4, 1) := by decide +kernel
theorem dX12_get_36 : decode cX12_get 36 = .ok (.iload_n 1, 1) := by decide +kernel
theorem dX12_get_37 : decode cX12_get 37 = .ok (.imul, 1) := by decide +kernel
theorem dX12_get_38 : decode cX12_get 38 = .ok (.iload_n 2, 1) := by decide +kernel
theorem dX12_get_39 : decode cX12_get 39 = .ok (.iadd, 1) := by decide +kernel
theorem dX12_get_40 : decode cX12_get 40 = .ok (.iaload, 1) := by decide +kernel
theorem dX12_get_41 : decode cX12_get 41 = .ok (.goto 4, 3) := by decide +kernel
theorem dX12_get_44 : decode cX12_get 44 = .ok (.iconst (-1), 1) := by decide +kernel
theorem dX12_get_45 : decode cX12_get 45 = .ok (.ireturn, 1) := by decide +kernel
theorem dX12_wide_0 : decode cX12_wide 0 = .ok (.iload_n 1, 1) := by decide +kernel
theorem dX12_wide_1 : decode cX12_wide 1 = .ok (.iconst 2, 1) := by decide +kernel
theorem dX12_wide_2 : decode cX12_wide 2 = .ok (.bipush 8, 2) := by decide +kernel
theorem dX12_wide_4 : decode cX12_wide 4 = .ok (.invokestatic 82, 3) := by decide +kernel
theorem dX12_wide_7 : decode cX12_wide 7 = .ok (.ifCond .ne 6, 3) := by decide +kernel
theorem dX12_wide_10 : decode cX12_wide 10 = .ok (.bipush (-102), 2) := by decide +kernel
theorem dX12_wide_12 : decode cX12_wide 12 = .ok (.ireturn, 1) := by decide +kernel
theorem dX12_wide_13 : decode cX12_wide 13 = .ok (.aload_n 0, 1) := by decide +kernel
theorem dX12_wide_14 : decode cX12_wide 14 = .ok (.getfield 17, 3) := by decide +kernel
theorem dX12_wide_17 : decode cX12_wide 17 = .ok (.istore_n 2, 1) := by decide +kernel
theorem dX12_wide_18 : decode cX12_wide 18 = .ok (.aload_n 0, 1) := by decide +kernel
theorem dX12_wide_19 : decode cX12_wide 19 = .ok (.iload_n 1, 1) := by decide +kernel
theorem dX12_wide_20 : decode cX12_wide 20 = .ok (.putfield 17, 3) := by decide +kernel
theorem dX12_wide_23 : decode cX12_wide 23 = .ok (.iload_n 2, 1) := by decide +kernel
theorem dX12_wide_24 : decode cX12_wide 24 = .ok (.ireturn, 1) := by decide +kernel
theorem dX12_fullPages_0 : decode cX12_fullPages 0 = .ok (.iconst 0, 1) := by decide +kernel
theorem dX12_fullPages_1 : decode cX12_fullPages 1 = .ok (.istore_n 1, 1) := by decide +kernel
theorem dX12_fullPages_2 : decode cX12_fullPages 2 = .ok (.iconst 0, 1) := by decide +kernel
theorem dX12_fullPages_3 : decode cX12_fullPages 3 = .ok (.istore_n 2, 1) := by decide +kernel
theorem dX12_fullPages_4 : decode cX12_fullPages 4 = .ok (.iload_n 2, 1) := by decide +kernel
theorem dX12_fullPages_5 : decode cX12_fullPages 5 = .ok (.bipush 64, 2) := by decide +kernel
theorem dX12_fullPages_7 : decode cX12_fullPages 7 = .ok (.if_icmp .ge 70, 3) := by decide +kernel
theorem dX12_fullPages_10 : decode cX12_fullPages 10 = .ok (.aload_n 0, 1) := by decide +kernel
theorem dX12_fullPages_11 : decode cX12_fullPages 11 = .ok (.getfield 7, 3) := by decide +kernel
theorem dX12_fullPages_14 : decode cX12_fullPages 14 = .ok (.iload_n 2, 1) := by decide +kernel
theorem dX12_fullPages_15 : decode cX12_fullPages 15 = .ok (.baload, 1) := by decide +kernel
theorem dX12_fullPages_16 : decode cX12_fullPages 16 = .ok (.istore_n 3, 1) := by decide +kernel
theorem dX12_fullPages_17 : decode cX12_fullPages 17 = .ok (.iload_n 2, 1) := by decide +kernel
theorem dX12_fullPages_18 : decode cX12_fullPages 18 = .ok (.iload_n 2, 1) := by decide +kernel
theorem dX12_fullPages_19 : decode cX12_fullPages 19 = .ok (.aload_n 0, 1) := by decide +kernel
theorem dX12_fullPages_20 : decode cX12_fullPages 20 = .ok (.getfield 17, 3) := by decide +kernel
theorem dX12_fullPages_23 : decode cX12_fullPages 23 = .ok (.irem, 1) := by decide +kernel
theorem dX12_fullPages_24 : decode cX12_fullPages 24 = .ok (.isub, 1) := by decide +kernel
theorem dX12_fullPages_25 : decode cX12_fullPages 25 = .ok (.istore 4, 2) := by decide +kernel
theorem dX12_fullPages_27 : decode cX12_fullPages 27 = .ok (.iload 4, 2) := by decide +kernel
theorem dX12_fullPages_29 : decode cX12_fullPages 29 = .ok (.iload_n 2, 1) := by decide +kernel
theorem dX12_fullPages_30 : decode cX12_fullPages 30 = .ok (.if_icmp .ge 29, 3) := by decide +kernel
theorem dX12_fullPages_33 : decode cX12_fullPages 33 = .ok (.iload_n 3, 1) := by decide +kernel
theorem dX12_fullPages_34 : decode cX12_fullPages 34 = .ok (.ifCond .eq 17, 3) := by decide +kernel
theorem dX12_fullPages_37 : decode cX12_fullPages 37 = .ok (.aload_n 0, 1) := by decide +kernel
theorem dX12_fullPages_38 : decode cX12_fullPages 38 = .ok (.getfield 7, 3) := by decide +kernel
theorem dX12_fullPages_41 : decode cX12_fullPages 41 = .ok (.iload 4, 2) := by decide +kernel
theorem dX12_fullPages_43 : decode cX12_fullPages 43 = .ok (.baload, 1) := by decide +kernel
theorem dX12_fullPages_44 : decode cX12_fullPages 44 = .ok (.ifCond .ne 7, 3) := by decide +kernel
theorem dX12_fullPages_47 : decode cX12_fullPages 47 = .ok (.iconst 1, 1) := by decide +kernel
theorem dX12_fullPages_48 : decode cX12_fullPages 48 = .ok (.goto 4, 3) := by decide +kernel
theorem dX12_fullPages_51 : decode cX12_fullPages 51 = .ok (.iconst 0, 1) := by decide +kernel
theorem dX12_fullPages_52 : decode cX12_fullPages 52 = .ok (.istore_n 3, 1) := by decide +kernel
theorem dX12_fullPages_53 : decode cX12_fullPages 53 = .ok (.iinc 4 1, 3) := by decide +kernel
theorem dX12_fullPages_56 : decode cX12_fullPages 56 = .ok (.goto (-29), 3) := by decide +kernel
theorem dX12_fullPages_59 : decode cX12_fullPages 59 = .ok (.iload_n 1, 1) := by decide +kernel
theorem dX12_fullPages_60 : decode cX12_fullPages 60 = .ok (.iload_n 3, 1) := by decide +kernel
theorem dX12_fullPages_61 : decode cX12_fullPages 61 = .ok (.ifCond .eq 7, 3) := by decide +kernel
theorem dX12_fullPages_64 : decode cX12_fullPages 64 = .ok (.iconst 1, 1) := by decide +kernel
theorem dX12_fullPages_65 : decode cX12_fullPages 65 = .ok (.goto 4, 3) := by decide +kernel
theorem dX12_fullPages_68 : decode cX12_fullPages 68 = .ok (.iconst 0, 1) := by decide +kernel
theorem dX12_fullPages_69 : decode cX12_fullPages 69 = .ok (.iadd, 1) := by decide +kernel
theorem dX12_fullPages_70 : decode cX12_fullPages 70 = .ok (.istore_n 1, 1) := by decide +kernel
theorem dX12_fullPages_71 : decode cX12_fullPages 71 = .ok (.iinc 2 1, 3) := by decide +kernel
theorem dX12_fullPages_74 : decode cX12_fullPages 74 = .ok (.goto (-70), 3) := by decide +kernel
theorem dX12_fullPages_77 : decode cX12_fullPages 77 = .ok (.iload_n 1, 1) := by decide +kernel
theorem dX12_fullPages_78 : decode cX12_fullPages 78 = .ok (.ireturn, 1) := by decide +kernel
theorem dX12_letters_0 : decode cX12_letters 0 = .ok (.iconst 0, 1) := by decide +kernel
theorem dX12_letters_1 : decode cX12_letters 1 = .ok (.istore_n 3, 1) := by decide +kernel
theorem dX12_letters_2 : decode cX12_letters 2 = .ok (.iconst 0, 1) := by decide +kernel
theorem dX12_letters_3 : decode cX12_letters 3 = .ok (.istore 4, 2) := by decide +kernel
theorem dX12_letters_5 : decode cX12_letters 5 = .ok (.iconst 0, 1) := by decide +kernel
theorem dX12_letters_6 : decode cX12_letters 6 = .ok (.istore 5, 2) := by decide +kernel
theorem dX12_letters_8 : decode cX12_letters 8 = .ok (.iload 5, 2) := by decide +kernel
theorem dX12_letters_10 : decode cX12_letters 10 = .ok (.bipush 8, 2) := by decide +kernel
theorem dX12_letters_12 : decode cX12_letters 12 = .ok (.if_icmp .ge 73, 3) := by decide +kernel
theorem dX12_letters_15 : decode cX12_letters 15 = .ok (.lload_n 1, 1) := by decide +kernel
theorem dX12_letters_16 : decode cX12_letters 16 = .ok (.bipush 8, 2) := by decide +kernel
theorem dX12_letters_18 : decode cX12_letters 18 = .ok (.iload 5, 2) := by decide +kernel
theorem dX12_letters_20 : decode cX12_letters 20 = .ok (.imul, 1) := by decide +kernel
theorem dX12_letters_21 : decode cX12_letters 21 = .ok (.lshr, 1) := by decide +kernel
theorem dX12_letters_22 : decode cX12_letters 22 = .ok (.ldc2_w 166, 3) := by decide +kernel
theorem dX12_letters_25 : decode cX12_letters 25 = .ok (.land, 1) := by decide +kernel
theorem dX12_letters_26 : decode cX12_letters 26 = .ok (.l2i, 1) := by decide +kernel
theorem dX12_letters_27 : decode cX12_letters 27 = .ok (.istore 6, 2) := by decide +kernel
theorem dX12_letters_29 : decode cX12_letters 29 = .ok (.iload 6, 2) := by decide +kernel
theorem dX12_letters_31 : decode cX12_letters 31 = .ok (.bipush 126, 2) := by decide +kernel
theorem dX12_letters_33 : decode cX12_letters 33 = .ok (.if_icmp .gt 13, 3) := by decide +kernel
theorem dX12_letters_36 : decode cX12_letters 36 = .ok (.iload 4, 2) := by decide +kernel
theorem dX12_letters_38 : decode cX12_letters 38 = .ok (.ifCond .eq 11, 3) := by decide +kernel
theorem dX12_letters_41 : decode cX12_letters 41 = .ok (.iload 6, 2) := by decide +kernel
theorem dX12_letters_43 : decode cX12_letters 43 = .ok (.ifCond .eq 6, 3) := by decide +kernel
theorem dX12_letters_46 : decode cX12_letters 46 = .ok (.bipush (-102), 2) := by decide +kernel
theorem dX12_letters_48 : decode cX12_letters 48 = .ok (.ireturn, 1) := by decide +kernel
theorem dX12_letters_49 : decode cX12_letters 49 = .ok (.iload 4, 2) := by decide +kernel
theorem dX12_letters_51 : decode cX12_letters 51 = .ok (.ifCond .ne 8, 3) := by decide +kernel
theorem dX12_letters_54 : decode cX12_letters 54 = .ok (.iload 6, 2) := by decide +kernel
theorem dX12_letters_56 : decode cX12_letters 56 = .ok (.ifCond .ne 7, 3) := by decide +kernel
theorem dX12_letters_59 : decode cX12_letters 59 = .ok (.iconst 1, 1) := by decide +kernel
theorem dX12_letters_60 : decode cX12_letters 60 = .ok (.goto 4, 3) := by decide +kernel
theorem dX12_letters_63 : decode cX12_letters 63 = .ok (.iconst 0, 1) := by decide +kernel
theorem dX12_letters_64 : decode cX12_letters 64 = .ok (.istore 4, 2) := by decide +kernel
theorem dX12_letters_66 : decode cX12_letters 66 = .ok (.iload_n 3, 1) := by decide +kernel
theorem dX12_letters_67 : decode cX12_letters 67 = .ok (.iload 6, 2) := by decide +kernel
theorem dX12_letters_69 : decode cX12_letters 69 = .ok (.ifCond .ne 7, 3) := by decide +kernel
theorem dX12_letters_72 : decode cX12_letters 72 = .ok (.iconst 0, 1) := by decide +kernel
theorem dX12_letters_73 : decode cX12_letters 73 = .ok (.goto 4, 3) := by decide +kernel
theorem dX12_letters_76 : decode cX12_letters 76 = .ok (.iconst 1, 1) := by decide +kernel
theorem dX12_letters_77 : decode cX12_letters 77 = .ok (.iadd, 1) := by decide +kernel
theorem dX12_letters_78 : decode cX12_letters 78 = .ok (.istore_n 3, 1) := by decide +kernel
theorem dX12_letters_79 : decode cX12_letters 79 = .ok (.iinc 5 1, 3) := by decide +kernel
theorem dX12_letters_82 : decode cX12_letters 82 = .ok (.goto (-74), 3) := by decide +kernel
theorem dX12_letters_85 : decode cX12_letters 85 = .ok (.aload_n 0, 1) := by decide +kernel
theorem dX12_letters_86 : decode cX12_letters 86 = .ok (.getfield 168, 3) := by decide +kernel
theorem dX12_letters_89 : decode cX12_letters 89 = .ok (.iload_n 3, 1) := by decide +kernel
theorem dX12_letters_90 : decode cX12_letters 90 = .ok (.iadd, 1) := by decide +kernel
theorem dX12_letters_91 : decode cX12_letters 91 = .ok (.bipush 60, 2) := by decide +kernel
theorem dX12_letters_93 : decode cX12_letters 93 = .ok (.if_icmp .le 6, 3) := by decide +kernel
theorem dX12_letters_96 : decode cX12_letters 96 = .ok (.bipush (-104), 2) := by decide +kernel
theorem dX12_letters_98 : decode cX12_letters 98 = .ok (.ireturn, 1) := by decide +kernel
theorem dX12_letters_99 : decode cX12_letters 99 = .ok (.iconst 0, 1) := by decide +kernel
theorem dX12_letters_100 : decode cX12_letters 100 = .ok (.istore 5, 2) := by decide +kernel
theorem dX12_letters_102 : decode cX12_letters 102 = .ok (.iload 5, 2) := by decide +kernel
theorem dX12_letters_104 : decode cX12_letters 104 = .ok (.iload_n 3, 1) := by decide +kernel
theorem dX12_letters_105 : decode cX12_letters 105 = .ok (.if_icmp .ge 30, 3) := by decide +kernel
theorem dX12_letters_108 : decode cX12_letters 108 = .ok (.aload_n 0, 1) := by decide +kernel
theorem dX12_letters_109 : decode cX12_letters 109 = .ok (.getfield 42, 3) := by decide +kernel
theorem dX12_letters_112 : decode cX12_letters 112 = .ok (.aload_n 0, 1) := by decide +kernel
theorem dX12_letters_113 : decode cX12_letters 113 = .ok (.getfield 168, 3) := by decide +kernel
theorem dX12_letters_116 : decode cX12_letters 116 = .ok (.iload 5, 2) := by decide +kernel
theorem dX12_letters_118 : decode cX12_letters 118 = .ok (.iadd, 1) := by decide +kernel
theorem dX12_letters_119 : decode cX12_letters 119 = .ok (.lload_n 1, 1) := by decide +kernel
theorem dX12_letters_120 : decode cX12_letters 120 = .ok (.bipush 8, 2) := by decide +kernel
theorem dX12_letters_122 : decode cX12_letters 122 = .ok (.iload 5, 2) := by decide +kernel
theorem dX12_letters_124 : decode cX12_letters 124 = .ok (.imul, 1) := by decide +kernel
theorem dX12_letters_125 : decode cX12_letters 125 = .ok (.lshr, 1) := by decide +kernel
theorem dX12_letters_126 : decode cX12_letters 126 = .ok (.l2i, 1) := by decide +kernel
theorem dX12_letters_127 : decode cX12_letters 127 = .ok (.i2b, 1) := by decide +kernel
theorem dX12_letters_128 : decode cX12_letters 128 = .ok (.bastore, 1) := by decide +kernel
theorem dX12_letters_129 : decode cX12_letters 129 = .ok (.iinc 5 1, 3) := by decide +kernel
theorem dX12_letters_132 : decode cX12_letters 132 = .ok (.goto (-30), 3) := by decide +kernel
theorem dX12_letters_135 : decode cX12_letters 135 = .ok (.aload_n 0, 1) := by decide +kernel
theorem dX12_letters_136 : decode cX12_letters 136 = .ok (.dup, 1) := by decide +kernel
theorem dX12_letters_137 : decode cX12_letters 137 = .ok (.getfield 168, 3) := by decide +kernel
theorem dX12_letters_140 : decode cX12_letters 140 = .ok (.iload_n 3, 1) := by decide +kernel
theorem dX12_letters_141 : decode cX12_letters 141 = .ok (.iadd, 1) := by decide +kernel
theorem dX12_letters_142 : decode cX12_letters 142 = .ok (.putfield 168, 3) := by decide +kernel
theorem dX12_letters_145 : decode cX12_letters 145 = .ok (.aload_n 0, 1) := by decide +kernel
theorem dX12_letters_146 : decode cX12_letters 146 = .ok (.getfield 168, 3) := by decide +kernel
theorem dX12_letters_149 : decode cX12_letters 149 = .ok (.ireturn, 1) := by decide +kernel
theorem dX12_blank_0 : decode cX12_blank 0 = .ok (.aload_n 0, 1) := by decide +kernel
theorem dX12_blank_1 : decode cX12_blank 1 = .ok (.getfield 168, 3) := by decide +kernel
theorem dX12_blank_4 : decode cX12_blank 4 = .ok (.istore_n 1, 1) := by decide +kernel
theorem dX12_blank_5 : decode cX12_blank 5 = .ok (.aload_n 0, 1) := by decide +kernel
theorem dX12_blank_6 : decode cX12_blank 6 = .ok (.iconst 0, 1) := by decide +kernel
theorem dX12_blank_7 : decode cX12_blank 7 = .ok (.putfield 168, 3) := by decide +kernel
theorem dX12_blank_10 : decode cX12_blank 10 = .ok (.iload_n 1, 1) := by decide +kernel
theorem dX12_blank_11 : decode cX12_blank 11 = .ok (.ireturn, 1) := by decide +kernel
theorem dX12_narrow_0 : decode cX12_narrow 0 = .ok (.aload_n 0, 1) := by decide +kernel
theorem dX12_narrow_1 : decode cX12_narrow 1 = .ok (.getfield 70, 3) := by decide +kernel
theorem dX12_narrow_4 : decode cX12_narrow 4 = .ok (.iconst 2, 1) := by decide +kernel
theorem dX12_narrow_5 : decode cX12_narrow 5 = .ok (.iload_n 1, 1) := by decide +kernel
theorem dX12_narrow_6 : decode cX12_narrow 6 = .ok (.imul, 1) := by decide +kernel
theorem dX12_narrow_7 : decode cX12_narrow 7 = .ok (.iaload, 1) := by decide +kernel
theorem dX12_narrow_8 : decode cX12_narrow 8 = .ok (.istore 4, 2) := by decide +kernel
theorem dX12_narrow_10 : decode cX12_narrow 10 = .ok (.aload_n 0, 1) := by decide +kernel
theorem dX12_narrow_11 : decode cX12_narrow 11 = .ok (.getfield 70, 3) := by decide +kernel
theorem dX12_narrow_14 : decode cX12_narrow 14 = .ok (.iconst 2, 1) := by decide +kernel
theorem dX12_narrow_15 : decode cX12_narrow 15 = .ok (.iload_n 1, 1) := by decide +kernel
theorem dX12_narrow_16 : decode cX12_narrow 16 = .ok (.imul, 1) := by decide +kernel
theorem dX12_narrow_17 : decode cX12_narrow 17 = .ok (.iconst 1, 1) := by decide +kernel
theorem dX12_narrow_18 : decode cX12_narrow 18 = .ok (.iadd, 1) := by decide +kernel
theorem dX12_narrow_19 : decode cX12_narrow 19 = .ok (.iaload, 1) := by decide +kernel
theorem dX12_narrow_20 : decode cX12_narrow 20 = .ok (.istore 5, 2) := by decide +kernel
theorem dX12_narrow_22 : decode cX12_narrow 22 = .ok (.iload_n 2, 1) := by decide +kernel
theorem dX12_narrow_23 : decode cX12_narrow 23 = .ok (.bipush 60, 2) := by decide +kernel
theorem dX12_narrow_25 : decode cX12_narrow 25 = .ok (.if_icmp .eq 42, 3) := by decide +kernel
theorem dX12_narrow_28 : decode cX12_narrow 28 = .ok (.iload_n 2, 1) := by decide +kernel
theorem dX12_narrow_29 : decode cX12_narrow 29 = .ok (.bipush 61, 2) := by decide +kernel
theorem dX12_narrow_31 : decode cX12_narrow 31 = .ok (.if_icmp .ne 7, 3) := by decide +kernel
theorem dX12_narrow_34 : decode cX12_narrow 34 = .ok (.iload_n 3, 1) := by decide +kernel
theorem dX12_narrow_35 : decode cX12_narrow 35 = .ok (.goto 6, 3) := by decide +kernel
theorem dX12_narrow_38 : decode cX12_narrow 38 = .ok (.iload_n 3, 1) := by decide +kernel
theorem dX12_narrow_39 : decode cX12_narrow 39 = .ok (.iconst 1, 1) := by decide +kernel
theorem dX12_narrow_40 : decode cX12_narrow 40 = .ok (.iadd, 1) := by decide +kernel
theorem dX12_narrow_41 : decode cX12_narrow 41 = .ok (.iload 4, 2) := by decide +kernel
theorem dX12_narrow_43 : decode cX12_narrow 43 = .ok (.if_icmp .le 24, 3) := by decide +kernel
theorem dX12_narrow_46 : decode cX12_narrow 46 = .ok (.aload_n 0, 1) := by decide +kernel
theorem dX12_narrow_47 : decode cX12_narrow 47 = .ok (.getfield 70, 3) := by decide +kernel
theorem dX12_narrow_50 : decode cX12_narrow 50 = .ok (.iconst 2, 1) := by decide +kernel
theorem dX12_narrow_51 : decode cX12_narrow 51 = .ok (.iload_n 1, 1) := by decide +kernel
theorem dX12_narrow_52 : decode cX12_narrow 52 = .ok (.imul, 1) := by decide +kernel
theorem dX12_narrow_53 : decode cX12_narrow 53 = .ok (.iload_n 2, 1) := by decide +kernel
theorem dX12_narrow_54 : decode cX12_narrow 54 = .ok (.bipush 61, 2) := by decide +kernel
theorem dX12_narrow_56 : decode cX12_narrow 56 = .ok (.if_icmp .ne 7, 3) := by decide +kernel
theorem dX12_narrow_59 : decode cX12_narrow 59 = .ok (.iload_n 3, 1) := by decide +kernel
theorem dX12_narrow_60 : decode cX12_narrow 60 = .ok (.goto 6, 3) := by decide +kernel
theorem dX12_narrow_63 : decode cX12_narrow 63 = .ok (.iload_n 3, 1) := by decide +kernel
theorem dX12_narrow_64 : decode cX12_narrow 64 = .ok (.iconst 1, 1) := by decide +kernel
theorem dX12_narrow_65 : decode cX12_narrow 65 = .ok (.iadd, 1) := by decide +kernel
theorem dX12_narrow_66 : decode cX12_narrow 66 = .ok (.iastore, 1) := by decide +kernel
theorem dX12_narrow_67 : decode cX12_narrow 67 = .ok (.iload_n 2, 1) := by decide +kernel
theorem dX12_narrow_68 : decode cX12_narrow 68 = .ok (.bipush 62, 2) := by decide +kernel
theorem dX12_narrow_70 : decode cX12_narrow 70 = .ok (.if_icmp .eq 44, 3) := by decide +kernel
theorem dX12_narrow_73 : decode cX12_narrow 73 = .ok (.iload_n 2, 1) := by decide +kernel
theorem dX12_narrow_74 : decode cX12_narrow 74 = .ok (.bipush 61, 2) := by decide +kernel
theorem dX12_narrow_76 : decode cX12_narrow 76 = .ok (.if_icmp .ne 7, 3) := by decide +kernel
theorem dX12_narrow_79 : decode cX12_narrow 79 = .ok (.iload_n 3, 1) := by decide +kernel
theorem dX12_narrow_80 : decode cX12_narrow 80 = .ok (.goto 6, 3) := by decide +kernel
theorem dX12_narrow_83 : decode cX12_narrow 83 = .ok (.iload_n 3, 1) := by decide +kernel
theorem dX12_narrow_84 : decode cX12_narrow 84 = .ok (.iconst 1, 1) := by decide +kernel
theorem dX12_narrow_85 : decode cX12_narrow 85 = .ok (.isub, 1) := by decide +kernel
theorem dX12_narrow_86 : decode cX12_narrow 86 = .ok (.iload 5, 2) := by decide +kernel
theorem dX12_narrow_88 : decode cX12_narrow 88 = .ok (.if_icmp .ge 26, 3) := by decide +kernel
theorem dX12_narrow_91 : decode cX12_narrow 91 = .ok (.aload_n 0, 1) := by decide +kernel
theorem dX12_narrow_92 : decode cX12_narrow 92 = .ok (.getfield 70, 3) := by decide +kernel
theorem dX12_narrow_95 : decode cX12_narrow 95 = .ok (.iconst 2, 1) := by decide +kernel
theorem dX12_narrow_96 : decode cX12_narrow 96 = .ok (.iload_n 1, 1) := by decide +kernel
theorem dX12_narrow_97 : decode cX12_narrow 97 = .ok (.imul, 1) := by decide +kernel
theorem dX12_narrow_98 : decode cX12_narrow 98 = .ok (.iconst 1, 1) := by decide +kernel
theorem dX12_narrow_99 : decode cX12_narrow 99 = .ok (.iadd, 1) := by decide +kernel
theorem dX12_narrow_100 : decode cX12_narrow 100 = .ok (.iload_n 2, 1) := by decide +kernel
theorem dX12_narrow_101 : decode cX12_narrow 101 = .ok (.bipush 61, 2) := by decide +kernel
theorem dX12_narrow_103 : decode cX12_narrow 103 = .ok (.if_icmp .ne 7, 3) := by decide +kernel
theorem dX12_narrow_106 : decode cX12_narrow 106 = .ok (.iload_n 3, 1) := by decide +kernel
theorem dX12_narrow_107 : decode cX12_narrow 107 = .ok (.goto 6, 3) := by decide +kernel
theorem dX12_narrow_110 : decode cX12_narrow 110 = .ok (.iload_n 3, 1) := by decide +kernel
theorem dX12_narrow_111 : decode cX12_narrow 111 = .ok (.iconst 1, 1) := by decide +kernel
theorem dX12_narrow_112 : decode cX12_narrow 112 = .ok (.isub, 1) := by decide +kernel
theorem dX12_narrow_113 : decode cX12_narrow 113 = .ok (.iastore, 1) := by decide +kernel
theorem dX12_narrow_114 : decode cX12_narrow 114 = .ok (.return_, 1) := by decide +kernel
theorem dX12_readQuestion_0 : decode cX12_readQuestion 0 = .ok (.iconst 0, 1) := by decide +kernel
theorem dX12_readQuestion_1 : decode cX12_readQuestion 1 = .ok (.istore_n 1, 1) := by decide +kernel
theorem dX12_readQuestion_2 : decode cX12_readQuestion 2 = .ok (.iload_n 1, 1) := by decide +kernel
theorem dX12_readQuestion_3 : decode cX12_readQuestion 3 = .ok (.iconst 4, 1) := by decide +kernel
theorem dX12_readQuestion_4 : decode cX12_readQuestion 4 = .ok (.if_icmp .ge 30, 3) := by decide +kernel
theorem dX12_readQuestion_7 : decode cX12_readQuestion 7 = .ok (.aload_n 0, 1) := by decide +kernel
theorem dX12_readQuestion_8 : decode cX12_readQuestion 8 = .ok (.getfield 70, 3) := by decide +kernel
theorem dX12_readQuestion_11 : decode cX12_readQuestion 11 = .ok (.iconst 2, 1) := by decide +kernel
theorem dX12_readQuestion_12 : decode cX12_readQuestion 12 = .ok (.iload_n 1, 1) := by decide +kernel
theorem dX12_readQuestion_13 : decode cX12_readQuestion 13 = .ok (.imul, 1) := by decide +kernel
theorem dX12_readQuestion_14 : decode cX12_readQuestion 14 = .ok (.iconst 0, 1) := by decide +kernel
theorem dX12_readQuestion_15 : decode cX12_readQuestion 15 = .ok (.iastore, 1) := by decide +kernel
theorem dX12_readQuestion_16 : decode cX12_readQuestion 16 = .ok (.aload_n 0, 1) := by decide +kernel
theorem dX12_readQuestion_17 : decode cX12_readQuestion 17 = .ok (.getfield 70, 3) := by decide +kernel
theorem dX12_readQuestion_20 : decode cX12_readQuestion 20 = .ok (.iconst 2, 1) := by decide +kernel
theorem dX12_readQuestion_21 : decode cX12_readQuestion 21 = .ok (.iload_n 1, 1) := by decide +kernel
theorem dX12_readQuestion_22 : decode cX12_readQuestion 22 = .ok (.imul, 1) := by decide +kernel
theorem dX12_readQuestion_23 : decode cX12_readQuestion 23 = .ok (.iconst 1, 1) := by decide +kernel
theorem dX12_readQuestion_24 : decode cX12_readQuestion 24 = .ok (.iadd, 1) := by decide +kernel
theorem dX12_readQuestion_25 : decode cX12_readQuestion 25 = .ok (.bipush 99, 2) := by decide +kernel
theorem dX12_readQuestion_27 : decode cX12_readQuestion 27 = .ok (.iastore, 1) := by decide +kernel
theorem dX12_readQuestion_28 : decode cX12_readQuestion 28 = .ok (.iinc 1 1, 3) := by decide +kernel
theorem dX12_readQuestion_31 : decode cX12_readQuestion 31 = .ok (.goto (-29), 3) := by decide +kernel
theorem dX12_readQuestion_34 : decode cX12_readQuestion 34 = .ok (.aload_n 0, 1) := by decide +kernel
theorem dX12_readQuestion_35 : decode cX12_readQuestion 35 = .ok (.iconst 0, 1) := by decide +kernel
theorem dX12_readQuestion_36 : decode cX12_readQuestion 36 = .ok (.putfield 171, 3) := by decide +kernel
theorem dX12_readQuestion_39 : decode cX12_readQuestion 39 = .ok (.aload_n 0, 1) := by decide +kernel
theorem dX12_readQuestion_40 : decode cX12_readQuestion 40 = .ok (.iconst (-1), 1) := by decide +kernel
theorem dX12_readQuestion_41 : decode cX12_readQuestion 41 = .ok (.putfield 174, 3) := by decide +kernel
theorem dX12_readQuestion_44 : decode cX12_readQuestion 44 = .ok (.iconst 0, 1) := by decide +kernel
theorem dX12_readQuestion_45 : decode cX12_readQuestion 45 = .ok (.istore_n 1, 1) := by decide +kernel
theorem dX12_readQuestion_46 : decode cX12_readQuestion 46 = .ok (.iconst 0, 1) := by decide +kernel
theorem dX12_readQuestion_47 : decode cX12_readQuestion 47 = .ok (.istore_n 2, 1) := by decide +kernel
theorem dX12_readQuestion_48 : decode cX12_readQuestion 48 = .ok (.iconst 0, 1) := by decide +kernel
theorem dX12_readQuestion_49 : decode cX12_readQuestion 49 = .ok (.istore_n 3, 1) := by decide +kernel
theorem dX12_readQuestion_50 : decode cX12_readQuestion 50 = .ok (.iconst 0, 1) := by decide +kernel
theorem dX12_readQuestion_51 : decode cX12_readQuestion 51 = .ok (.istore 4, 2) := by decide +kernel
theorem dX12_readQuestion_53 : decode cX12_readQuestion 53 = .ok (.iconst 0, 1) := by decide +kernel
theorem dX12_readQuestion_54 : decode cX12_readQuestion 54 = .ok (.istore 5, 2) := by decide +kernel
theorem dX12_readQuestion_56 : decode cX12_readQuestion 56 = .ok (.iconst 1, 1) := by decide +kernel
theorem dX12_readQuestion_57 : decode cX12_readQuestion 57 = .ok (.istore 6, 2) := by decide +kernel
theorem dX12_readQuestion_59 : decode cX12_readQuestion 59 = .ok (.iload 5, 2) := by decide +kernel
theorem dX12_readQuestion_61 : decode cX12_readQuestion 61 = .ok (.aload_n 0, 1) := by decide +kernel
theorem dX12_readQuestion_62 : decode cX12_readQuestion 62 = .ok (.getfield 168, 3) := by decide +kernel
theorem dX12_readQuestion_65 : decode cX12_readQuestion 65 = .ok (.if_icmp .ge 331, 3) := by decide +kernel
theorem dX12_readQuestion_68 : decode cX12_readQuestion 68 = .ok (.iload 6, 2) := by decide +kernel
theorem dX12_readQuestion_70 : decode cX12_readQuestion 70 = .ok (.ifCond .eq 326, 3) := by decide +kernel
theorem dX12_readQuestion_73 : decode cX12_readQuestion 73 = .ok (.aload_n 0, 1) := by decide +kernel
theorem dX12_readQuestion_74 : decode cX12_readQuestion 74 = .ok (.getfield 42, 3) := by decide +kernel
theorem dX12_readQuestion_77 : decode cX12_readQuestion 77 = .ok (.iload 5, 2) := by decide +kernel
theorem dX12_readQuestion_79 : decode cX12_readQuestion 79 = .ok (.baload, 1) := by decide +kernel
theorem dX12_readQuestion_80 : decode cX12_readQuestion 80 = .ok (.istore 7, 2) := by decide +kernel
theorem dX12_readQuestion_82 : decode cX12_readQuestion 82 = .ok (.iload 7, 2) := by decide +kernel
theorem dX12_readQuestion_84 : decode cX12_readQuestion 84 = .ok (.bipush 97, 2) := by decide +kernel
theorem dX12_readQuestion_86 : decode cX12_readQuestion 86 = .ok (.bipush 100, 2) := by decide +kernel
theorem dX12_readQuestion_88 : decode cX12_readQuestion 88 = .ok (.invokestatic 82, 3) := by decide +kernel
theorem dX12_readQuestion_91 : decode cX12_readQuestion 91 = .ok (.istore 8, 2) := by decide +kernel
theorem dX12_readQuestion_93 : decode cX12_readQuestion 93 = .ok (.iload 7, 2) := by decide +kernel
theorem dX12_readQuestion_95 : decode cX12_readQuestion 95 = .ok (.bipush 48, 2) := by decide +kernel
theorem dX12_readQuestion_97 : decode cX12_readQuestion 97 = .ok (.bipush 57, 2) := by decide +kernel
theorem dX12_readQuestion_99 : decode cX12_readQuestion 99 = .ok (.invokestatic 82, 3) := by decide +kernel
theorem dX12_readQuestion_102 : decode cX12_readQuestion 102 = .ok (.istore 9, 2) := by decide +kernel
theorem dX12_readQuestion_104 : decode cX12_readQuestion 104 = .ok (.iconst 1, 1) := by decide +kernel
theorem dX12_readQuestion_105 : decode cX12_readQuestion 105 = .ok (.istore 6, 2) := by decide +kernel
theorem dX12_readQuestion_107 : decode cX12_readQuestion 107 = .ok (.iload_n 1, 1) := by decide +kernel
theorem dX12_readQuestion_108 : decode cX12_readQuestion 108 = .ok (.ifCond .eq 8, 3) := by decide +kernel
theorem dX12_readQuestion_111 : decode cX12_readQuestion 111 = .ok (.iload_n 1, 1) := by decide +kernel
theorem dX12_readQuestion_112 : decode cX12_readQuestion 112 = .ok (.iconst 1, 1) := by decide +kernel
theorem dX12_readQuestion_113 : decode cX12_readQuestion 113 = .ok (.if_icmp .ne 19, 3) := by decide +kernel
theorem dX12_readQuestion_116 : decode cX12_readQuestion 116 = .ok (.iload 8, 2) := by decide +kernel
theorem dX12_readQuestion_118 : decode cX12_readQuestion 118 = .ok (.ifCond .eq 14, 3) := by decide +kernel
theorem dX12_readQuestion_121 : decode cX12_readQuestion 121 = .ok (.iload 7, 2) := by decide +kernel
theorem dX12_readQuestion_123 : decode cX12_readQuestion 123 = .ok (.bipush 97, 2) := by decide +kernel
theorem dX12_readQuestion_125 : decode cX12_readQuestion 125 = .ok (.isub, 1) := by decide +kernel
theorem dX12_readQuestion_126 : decode cX12_readQuestion 126 = .ok (.istore_n 2, 1) := by decide +kernel
theorem dX12_readQuestion_127 : decode cX12_readQuestion 127 = .ok (.iconst 2, 1) := by decide +kernel
theorem dX12_readQuestion_128 : decode cX12_readQuestion 128 = .ok (.istore_n 1, 1) := by decide +kernel
theorem dX12_readQuestion_129 : decode cX12_readQuestion 129 = .ok (.goto 249, 3) := by decide +kernel
theorem dX12_readQuestion_132 : decode cX12_readQuestion 132 = .ok (.iload_n 1, 1) := by decide +kernel
theorem dX12_readQuestion_133 : decode cX12_readQuestion 133 = .ok (.iconst 2, 1) := by decide +kernel
theorem dX12_readQuestion_134 : decode cX12_readQuestion 134 = .ok (.if_icmp .ne 23, 3) := by decide +kernel
theorem dX12_readQuestion_137 : decode cX12_readQuestion 137 = .ok (.iload 7, 2) := by decide +kernel
theorem dX12_readQuestion_139 : decode cX12_readQuestion 139 = .ok (.bipush 60, 2) := by decide +kernel
theorem dX12_readQuestion_141 : decode cX12_readQuestion 141 = .ok (.bipush 62, 2) := by decide +kernel
theorem dX12_readQuestion_143 : decode cX12_readQuestion 143 = .ok (.invokestatic 82, 3) := by decide +kernel
theorem dX12_readQuestion_146 : decode cX12_readQuestion 146 = .ok (.ifCond .eq 11, 3) := by decide +kernel
theorem dX12_readQuestion_149 : decode cX12_readQuestion 149 = .ok (.iload 7, 2) := by decide +kernel
theorem dX12_readQuestion_151 : decode cX12_readQuestion 151 = .ok (.istore_n 3, 1) := by decide +kernel
theorem dX12_readQuestion_152 : decode cX12_readQuestion 152 = .ok (.iconst 3, 1) := by decide +kernel
theorem dX12_readQuestion_153 : decode cX12_readQuestion 153 = .ok (.istore_n 1, 1) := by decide +kernel
theorem dX12_readQuestion_154 : decode cX12_readQuestion 154 = .ok (.goto 224, 3) := by decide +kernel
theorem dX12_readQuestion_157 : decode cX12_readQuestion 157 = .ok (.iload_n 1, 1) := by decide +kernel
theorem dX12_readQuestion_158 : decode cX12_readQuestion 158 = .ok (.iconst 3, 1) := by decide +kernel
theorem dX12_readQuestion_159 : decode cX12_readQuestion 159 = .ok (.if_icmp .ne 20, 3) := by decide +kernel
theorem dX12_readQuestion_162 : decode cX12_readQuestion 162 = .ok (.iload 9, 2) := by decide +kernel
theorem dX12_readQuestion_164 : decode cX12_readQuestion 164 = .ok (.ifCond .eq 15, 3) := by decide +kernel
theorem dX12_readQuestion_167 : decode cX12_readQuestion 167 = .ok (.iload 7, 2) := by decide +kernel
theorem dX12_readQuestion_169 : decode cX12_readQuestion 169 = .ok (.bipush 48, 2) := by decide +kernel
theorem dX12_readQuestion_171 : decode cX12_readQuestion 171 = .ok (.isub, 1) := by decide +kernel
theorem dX12_readQuestion_172 : decode cX12_readQuestion 172 = .ok (.istore 4, 2) := by decide +kernel
theorem dX12_readQuestion_174 : decode cX12_readQuestion 174 = .ok (.iconst 4, 1) := by decide +kernel
theorem dX12_readQuestion_175 : decode cX12_readQuestion 175 = .ok (.istore_n 1, 1) := by decide +kernel
theorem dX12_readQuestion_176 : decode cX12_readQuestion 176 = .ok (.goto 202, 3) := by decide +kernel
theorem dX12_readQuestion_179 : decode cX12_readQuestion 179 = .ok (.iload_n 1, 1) := by decide +kernel
theorem dX12_readQuestion_180 : decode cX12_readQuestion 180 = .ok (.iconst 4, 1) := by decide +kernel
theorem dX12_readQuestion_181 : decode cX12_readQuestion 181 = .ok (.if_icmp .ne 26, 3) := by decide +kernel
theorem dX12_readQuestion_184 : decode cX12_readQuestion 184 = .ok (.iload 9, 2) := by decide +kernel
theorem dX12_readQuestion_186 : decode cX12_readQuestion 186 = .ok (.ifCond .eq 21, 3) := by decide +kernel
theorem dX12_readQuestion_189 : decode cX12_readQuestion 189 = .ok (.bipush 10, 2) := by decide +kernel
theorem dX12_readQuestion_191 : decode cX12_readQuestion 191 = .ok (.iload 4, 2) := by decide +kernel
theorem dX12_readQuestion_193 : decode cX12_readQuestion 193 = .ok (.imul, 1) := by decide +kernel
theorem dX12_readQuestion_194 : decode cX12_readQuestion 194 = .ok (.iload 7, 2) := by decide +kernel
theorem dX12_readQuestion_196 : decode cX12_readQuestion 196 = .ok (.iadd, 1) := by decide +kernel
theorem dX12_readQuestion_197 : decode cX12_readQuestion 197 = .ok (.bipush 48, 2) := by decide +kernel
theorem dX12_readQuestion_199 : decode cX12_readQuestion 199 = .ok (.isub, 1) := by decide +kernel
theorem dX12_readQuestion_200 : decode cX12_readQuestion 200 = .ok (.istore 4, 2) := by decide +kernel
theorem dX12_readQuestion_202 : decode cX12_readQuestion 202 = .ok (.iconst 5, 1) := by decide +kernel
theorem dX12_readQuestion_203 : decode cX12_readQuestion 203 = .ok (.istore_n 1, 1) := by decide +kernel
theorem dX12_readQuestion_204 : decode cX12_readQuestion 204 = .ok (.goto 174, 3) := by decide +kernel
theorem dX12_readQuestion_207 : decode cX12_readQuestion 207 = .ok (.iload_n 1, 1) := by decide +kernel
theorem dX12_readQuestion_208 : decode cX12_readQuestion 208 = .ok (.iconst 4, 1) := by decide +kernel
theorem dX12_readQuestion_209 : decode cX12_readQuestion 209 = .ok (.if_icmp .eq 8, 3) := by decide +kernel
theorem dX12_readQuestion_212 : decode cX12_readQuestion 212 = .ok (.iload_n 1, 1) := by decide +kernel
theorem dX12_readQuestion_213 : decode cX12_readQuestion 213 = .ok (.iconst 5, 1) := by decide +kernel
theorem dX12_readQuestion_214 : decode cX12_readQuestion 214 = .ok (.if_icmp .ne 23, 3) := by decide +kernel
theorem dX12_readQuestion_217 : decode cX12_readQuestion 217 = .ok (.iload 7, 2) := by decide +kernel
theorem dX12_readQuestion_219 : decode cX12_readQuestion 219 = .ok (.bipush 38, 2) := by decide +kernel
theorem dX12_readQuestion_221 : decode cX12_readQuestion 221 = .ok (.if_icmp .ne 16, 3) := by decide +kernel
theorem dX12_readQuestion_224 : decode cX12_readQuestion 224 = .ok (.aload_n 0, 1) := by decide +kernel
theorem dX12_readQuestion_225 : decode cX12_readQuestion 225 = .ok (.iload_n 2, 1) := by decide +kernel
theorem dX12_readQuestion_226 : decode cX12_readQuestion 226 = .ok (.iload_n 3, 1) := by decide +kernel
theorem dX12_readQuestion_227 : decode cX12_readQuestion 227 = .ok (.iload 4, 2) := by decide +kernel
theorem dX12_readQuestion_229 : decode cX12_readQuestion 229 = .ok (.invokevirtual 177, 3) := by decide +kernel
theorem dX12_readQuestion_232 : decode cX12_readQuestion 232 = .ok (.iconst 1, 1) := by decide +kernel
theorem dX12_readQuestion_233 : decode cX12_readQuestion 233 = .ok (.istore_n 1, 1) := by decide +kernel
theorem dX12_readQuestion_234 : decode cX12_readQuestion 234 = .ok (.goto 144, 3) := by decide +kernel
theorem dX12_readQuestion_237 : decode cX12_readQuestion 237 = .ok (.iload_n 1, 1) := by decide +kernel
theorem dX12_readQuestion_238 : decode cX12_readQuestion 238 = .ok (.ifCond .eq 13, 3) := by decide +kernel
theorem dX12_readQuestion_241 : decode cX12_readQuestion 241 = .ok (.iload_n 1, 1) := by decide +kernel
theorem dX12_readQuestion_242 : decode cX12_readQuestion 242 = .ok (.iconst 4, 1) := by decide +kernel
theorem dX12_readQuestion_243 : decode cX12_readQuestion 243 = .ok (.if_icmp .eq 8, 3) := by decide +kernel
theorem dX12_readQuestion_246 : decode cX12_readQuestion 246 = .ok (.iload_n 1, 1) := by decide +kernel
theorem dX12_readQuestion_247 : decode cX12_readQuestion 247 = .ok (.iconst 5, 1) := by decide +kernel
theorem dX12_readQuestion_248 : decode cX12_readQuestion 248 = .ok (.if_icmp .ne 28, 3) := by decide +kernel
theorem dX12_readQuestion_251 : decode cX12_readQuestion 251 = .ok (.iload 7, 2) := by decide +kernel
theorem dX12_readQuestion_253 : decode cX12_readQuestion 253 = .ok (.bipush 58, 2) := by decide +kernel
theorem dX12_readQuestion_255 : decode cX12_readQuestion 255 = .ok (.if_icmp .ne 21, 3) := by decide +kernel
theorem dX12_readQuestion_258 : decode cX12_readQuestion 258 = .ok (.iload_n 1, 1) := by decide +kernel
theorem dX12_readQuestion_259 : decode cX12_readQuestion 259 = .ok (.ifCond .le 11, 3) := by decide +kernel
theorem dX12_readQuestion_262 : decode cX12_readQuestion 262 = .ok (.aload_n 0, 1) := by decide +kernel
theorem dX12_readQuestion_263 : decode cX12_readQuestion 263 = .ok (.iload_n 2, 1) := by decide +kernel
theorem dX12_readQuestion_264 : decode cX12_readQuestion 264 = .ok (.iload_n 3, 1) := by decide +kernel
theorem dX12_readQuestion_265 : decode cX12_readQuestion 265 = .ok (.iload 4, 2) := by decide +kernel
theorem dX12_readQuestion_267 : decode cX12_readQuestion 267 = .ok (.invokevirtual 177, 3) := by decide +kernel
theorem dX12_readQuestion_270 : decode cX12_readQuestion 270 = .ok (.bipush 6, 2) := by decide +kernel
theorem dX12_readQuestion_272 : decode cX12_readQuestion 272 = .ok (.istore_n 1, 1) := by decide +kernel
theorem dX12_readQuestion_273 : decode cX12_readQuestion 273 = .ok (.goto 105, 3) := by decide +kernel
theorem dX12_readQuestion_276 : decode cX12_readQuestion 276 = .ok (.iload_n 1, 1) := by decide +kernel
theorem dX12_readQuestion_277 : decode cX12_readQuestion 277 = .ok (.bipush 6, 2) := by decide +kernel
theorem dX12_readQuestion_279 : decode cX12_readQuestion 279 = .ok (.if_icmp .eq 9, 3) := by decide +kernel
theorem dX12_readQuestion_282 : decode cX12_readQuestion 282 = .ok (.iload_n 1, 1) := by decide +kernel
theorem dX12_readQuestion_283 : decode cX12_readQuestion 283 = .ok (.bipush 7, 2) := by decide +kernel
theorem dX12_readQuestion_285 : decode cX12_readQuestion 285 = .ok (.if_icmp .ne 45, 3) := by decide +kernel
theorem dX12_readQuestion_288 : decode cX12_readQuestion 288 = .ok (.iload 8, 2) := by decide +kernel
theorem dX12_readQuestion_290 : decode cX12_readQuestion 290 = .ok (.ifCond .eq 40, 3) := by decide +kernel
theorem dX12_readQuestion_293 : decode cX12_readQuestion 293 = .ok (.aload_n 0, 1) := by decide +kernel
theorem dX12_readQuestion_294 : decode cX12_readQuestion 294 = .ok (.getfield 171, 3) := by decide +kernel
theorem dX12_readQuestion_297 : decode cX12_readQuestion 297 = .ok (.iload 7, 2) := by decide +kernel
theorem dX12_readQuestion_299 : decode cX12_readQuestion 299 = .ok (.bipush 97, 2) := by decide +kernel
theorem dX12_readQuestion_301 : decode cX12_readQuestion 301 = .ok (.isub, 1) := by decide +kernel
theorem dX12_readQuestion_302 : decode cX12_readQuestion 302 = .ok (.ishr, 1) := by decide +kernel
theorem dX12_readQuestion_303 : decode cX12_readQuestion 303 = .ok (.iconst 1, 1) := by decide +kernel
theorem dX12_readQuestion_304 : decode cX12_readQuestion 304 = .ok (.iand, 1) := by decide +kernel
theorem dX12_readQuestion_305 : decode cX12_readQuestion 305 = .ok (.ifCond .ne 25, 3) := by decide +kernel
theorem dX12_readQuestion_308 : decode cX12_readQuestion 308 = .ok (.aload_n 0, 1) := by decide +kernel
theorem dX12_readQuestion_309 : decode cX12_readQuestion 309 = .ok (.dup, 1) := by decide +kernel
theorem dX12_readQuestion_310 : decode cX12_readQuestion 310 = .ok (.getfield 171, 3) := by decide +kernel
theorem dX12_readQuestion_313 : decode cX12_readQuestion 313 = .ok (.iconst 1, 1) := by decide +kernel
theorem dX12_readQuestion_314 : decode cX12_readQuestion 314 = .ok (.iload 7, 2) := by decide +kernel
theorem dX12_readQuestion_316 : decode cX12_readQuestion 316 = .ok (.bipush 97, 2) := by decide +kernel
theorem dX12_readQuestion_318 : decode cX12_readQuestion 318 = .ok (.isub, 1) := by decide +kernel
theorem dX12_readQuestion_319 : decode cX12_readQuestion 319 = .ok (.ishl, 1) := by decide +kernel
theorem dX12_readQuestion_320 : decode cX12_readQuestion 320 = .ok (.ior, 1) := by decide +kernel
theorem dX12_readQuestion_321 : decode cX12_readQuestion 321 = .ok (.putfield 171, 3) := by decide +kernel
theorem dX12_readQuestion_324 : decode cX12_readQuestion 324 = .ok (.bipush 7, 2) := by decide +kernel
theorem dX12_readQuestion_326 : decode cX12_readQuestion 326 = .ok (.istore_n 1, 1) := by decide +kernel
theorem dX12_readQuestion_327 : decode cX12_readQuestion 327 = .ok (.goto 51, 3) := by decide +kernel
theorem dX12_readQuestion_330 : decode cX12_readQuestion 330 = .ok (.iload_n 1, 1) := by decide +kernel
theorem dX12_readQuestion_331 : decode cX12_readQuestion 331 = .ok (.bipush 7, 2) := by decide +kernel
theorem dX12_readQuestion_333 : decode cX12_readQuestion 333 = .ok (.if_icmp .ne 16, 3) := by decide +kernel
theorem dX12_readQuestion_336 : decode cX12_readQuestion 336 = .ok (.iload 7, 2) := by decide +kernel
theorem dX12_readQuestion_338 : decode cX12_readQuestion 338 = .ok (.bipush 47, 2) := by decide +kernel
theorem dX12_readQuestion_340 : decode cX12_readQuestion 340 = .ok (.if_icmp .ne 9, 3) := by decide +kernel
theorem dX12_readQuestion_343 : decode cX12_readQuestion 343 = .ok (.bipush 8, 2) := by decide +kernel
theorem dX12_readQuestion_345 : decode cX12_readQuestion 345 = .ok (.istore_n 1, 1) := by decide +kernel
theorem dX12_readQuestion_346 : decode cX12_readQuestion 346 = .ok (.goto 32, 3) := by decide +kernel
theorem dX12_readQuestion_349 : decode cX12_readQuestion 349 = .ok (.iload_n 1, 1) := by decide +kernel
theorem dX12_readQuestion_350 : decode cX12_readQuestion 350 = .ok (.bipush 8, 2) := by decide +kernel
theorem dX12_readQuestion_352 : decode cX12_readQuestion 352 = .ok (.if_icmp .ne 23, 3) := by decide +kernel
theorem dX12_readQuestion_355 : decode cX12_readQuestion 355 = .ok (.iload 8, 2) := by decide +kernel
theorem dX12_readQuestion_357 : decode cX12_readQuestion 357 = .ok (.ifCond .eq 18, 3) := by decide +kernel
theorem dX12_readQuestion_360 : decode cX12_readQuestion 360 = .ok (.aload_n 0, 1) := by decide +kernel
theorem dX12_readQuestion_361 : decode cX12_readQuestion 361 = .ok (.iload 7, 2) := by decide +kernel
theorem dX12_readQuestion_363 : decode cX12_readQuestion 363 = .ok (.bipush 97, 2) := by decide +kernel
theorem dX12_readQuestion_365 : decode cX12_readQuestion 365 = .ok (.isub, 1) := by decide +kernel
theorem dX12_readQuestion_366 : decode cX12_readQuestion 366 = .ok (.putfield 174, 3) := by decide +kernel
theorem dX12_readQuestion_369 : decode cX12_readQuestion 369 = .ok (.bipush 9, 2) := by decide +kernel
theorem dX12_readQuestion_371 : decode cX12_readQuestion 371 = .ok (.istore_n 1, 1) := by decide +kernel
theorem dX12_readQuestion_372 : decode cX12_readQuestion 372 = .ok (.goto 6, 3) := by decide +kernel
theorem dX12_readQuestion_375 : decode cX12_readQuestion 375 = .ok (.iconst 0, 1) := by decide +kernel
theorem dX12_readQuestion_376 : decode cX12_readQuestion 376 = .ok (.istore 6, 2) := by decide +kernel
theorem dX12_readQuestion_378 : decode cX12_readQuestion 378 = .ok (.iload 5, 2) := by decide +kernel
theorem dX12_readQuestion_380 : decode cX12_readQuestion 380 = .ok (.iload 6, 2) := by decide +kernel
theorem dX12_readQuestion_382 : decode cX12_readQuestion 382 = .ok (.ifCond .eq 7, 3) := by decide +kernel
theorem dX12_readQuestion_385 : decode cX12_readQuestion 385 = .ok (.iconst 1, 1) := by decide +kernel
theorem dX12_readQuestion_386 : decode cX12_readQuestion 386 = .ok (.goto 4, 3) := by decide +kernel
theorem dX12_readQuestion_389 : decode cX12_readQuestion 389 = .ok (.iconst 0, 1) := by decide +kernel
theorem dX12_readQuestion_390 : decode cX12_readQuestion 390 = .ok (.iadd, 1) := by decide +kernel
theorem dX12_readQuestion_391 : decode cX12_readQuestion 391 = .ok (.istore 5, 2) := by decide +kernel
theorem dX12_readQuestion_393 : decode cX12_readQuestion 393 = .ok (.goto (-334), 3) := by decide +kernel
theorem dX12_readQuestion_396 : decode cX12_readQuestion 396 = .ok (.aload_n 0, 1) := by decide +kernel
theorem dX12_readQuestion_397 : decode cX12_readQuestion 397 = .ok (.iload 5, 2) := by decide +kernel
theorem dX12_readQuestion_399 : decode cX12_readQuestion 399 = .ok (.putfield 181, 3) := by decide +kernel
theorem dX12_readQuestion_402 : decode cX12_readQuestion 402 = .ok (.aload_n 0, 1) := by decide +kernel
theorem dX12_readQuestion_403 : decode cX12_readQuestion 403 = .ok (.iload 5, 2) := by decide +kernel
theorem dX12_readQuestion_405 : decode cX12_readQuestion 405 = .ok (.aload_n 0, 1) := by decide +kernel
theorem dX12_readQuestion_406 : decode cX12_readQuestion 406 = .ok (.getfield 168, 3) := by decide +kernel
theorem dX12_readQuestion_409 : decode cX12_readQuestion 409 = .ok (.if_icmp .ne 19, 3) := by decide +kernel
theorem dX12_readQuestion_412 : decode cX12_readQuestion 412 = .ok (.iload_n 1, 1) := by decide +kernel
theorem dX12_readQuestion_413 : decode cX12_readQuestion 413 = .ok (.bipush 7, 2) := by decide +kernel
theorem dX12_readQuestion_415 : decode cX12_readQuestion 415 = .ok (.if_icmp .eq 9, 3) := by decide +kernel
theorem dX12_readQuestion_418 : decode cX12_readQuestion 418 = .ok (.iload_n 1, 1) := by decide +kernel
theorem dX12_readQuestion_419 : decode cX12_readQuestion 419 = .ok (.bipush 9, 2) := by decide +kernel
theorem dX12_readQuestion_421 : decode cX12_readQuestion 421 = .ok (.if_icmp .ne 7, 3) := by decide +kernel
theorem dX12_readQuestion_424 : decode cX12_readQuestion 424 = .ok (.iconst 1, 1) := by decide +kernel
theorem dX12_readQuestion_425 : decode cX12_readQuestion 425 = .ok (.goto 4, 3) := by decide +kernel
theorem dX12_readQuestion_428 : decode cX12_readQuestion 428 = .ok (.iconst 0, 1) := by decide +kernel
theorem dX12_readQuestion_429 : decode cX12_readQuestion 429 = .ok (.putfield 184, 3) := by decide +kernel
theorem dX12_readQuestion_432 : decode cX12_readQuestion 432 = .ok (.return_, 1) := by decide +kernel
theorem dX12_good_0 : decode cX12_good 0 = .ok (.aload_n 0, 1) := by decide +kernel
theorem dX12_good_1 : decode cX12_good 1 = .ok (.invokevirtual 188, 3) := by decide +kernel
theorem dX12_good_4 : decode cX12_good 4 = .ok (.aload_n 0, 1) := by decide +kernel
theorem dX12_good_5 : decode cX12_good 5 = .ok (.getfield 181, 3) := by decide +kernel
theorem dX12_good_8 : decode cX12_good 8 = .ok (.ireturn, 1) := by decide +kernel
theorem dX12_ask_0 : decode cX12_ask 0 = .ok (.aload_n 0, 1) := by decide +kernel
theorem dX12_ask_1 : decode cX12_ask 1 = .ok (.invokevirtual 188, 3) := by decide +kernel
theorem dX12_ask_4 : decode cX12_ask 4 = .ok (.aload_n 0, 1) := by decide +kernel
theorem dX12_ask_5 : decode cX12_ask 5 = .ok (.getfield 184, 3) := by decide +kernel
theorem dX12_ask_8 : decode cX12_ask 8 = .ok (.ifCond .ne 6, 3) := by decide +kernel
theorem dX12_ask_11 : decode cX12_ask 11 = .ok (.bipush (-103), 2) := by decide +kernel
theorem dX12_ask_13 : decode cX12_ask 13 = .ok (.ireturn, 1) := by decide +kernel
theorem dX12_ask_14 : decode cX12_ask 14 = .ok (.aload_n 0, 1) := by decide +kernel
theorem dX12_ask_15 : decode cX12_ask 15 = .ok (.getfield 191, 3) := by decide +kernel
theorem dX12_ask_18 : decode cX12_ask 18 = .ok (.bipush 8, 2) := by decide +kernel
theorem dX12_ask_20 : decode cX12_ask 20 = .ok (.if_icmp .ne 6, 3) := by decide +kernel
theorem dX12_ask_23 : decode cX12_ask 23 = .ok (.bipush (-104), 2) := by decide +kernel
theorem dX12_ask_25 : decode cX12_ask 25 = .ok (.ireturn, 1) := by decide +kernel
theorem dX12_ask_26 : decode cX12_ask 26 = .ok (.iconst 0, 1) := by decide +kernel
theorem dX12_ask_27 : decode cX12_ask 27 = .ok (.istore_n 1, 1) := by decide +kernel
theorem dX12_ask_28 : decode cX12_ask 28 = .ok (.iload_n 1, 1) := by decide +kernel
theorem dX12_ask_29 : decode cX12_ask 29 = .ok (.iconst 4, 1) := by decide +kernel
theorem dX12_ask_30 : decode cX12_ask 30 = .ok (.if_icmp .ge 104, 3) := by decide +kernel
theorem dX12_ask_33 : decode cX12_ask 33 = .ok (.aload_n 0, 1) := by decide +kernel
theorem dX12_ask_34 : decode cX12_ask 34 = .ok (.getfield 70, 3) := by decide +kernel
theorem dX12_ask_37 : decode cX12_ask 37 = .ok (.iconst 2, 1) := by decide +kernel
theorem dX12_ask_38 : decode cX12_ask 38 = .ok (.iload_n 1, 1) := by decide +kernel
theorem dX12_ask_39 : decode cX12_ask 39 = .ok (.imul, 1) := by decide +kernel
theorem dX12_ask_40 : decode cX12_ask 40 = .ok (.iaload, 1) := by decide +kernel
theorem dX12_ask_41 : decode cX12_ask 41 = .ok (.aload_n 0, 1) := by decide +kernel
theorem dX12_ask_42 : decode cX12_ask 42 = .ok (.getfield 70, 3) := by decide +kernel
theorem dX12_ask_45 : decode cX12_ask 45 = .ok (.iconst 2, 1) := by decide +kernel
theorem dX12_ask_46 : decode cX12_ask 46 = .ok (.iload_n 1, 1) := by decide +kernel
theorem dX12_ask_47 : decode cX12_ask 47 = .ok (.imul, 1) := by decide +kernel
theorem dX12_ask_48 : decode cX12_ask 48 = .ok (.iconst 1, 1) := by decide +kernel
theorem dX12_ask_49 : decode cX12_ask 49 = .ok (.iadd, 1) := by decide +kernel
theorem dX12_ask_50 : decode cX12_ask 50 = .ok (.iaload, 1) := by decide +kernel
theorem dX12_ask_51 : decode cX12_ask 51 = .ok (.if_icmp .le 7, 3) := by decide +kernel
theorem dX12_ask_54 : decode cX12_ask 54 = .ok (.iconst 1, 1) := by decide +kernel
theorem dX12_ask_55 : decode cX12_ask 55 = .ok (.goto 4, 3) := by decide +kernel
theorem dX12_ask_58 : decode cX12_ask 58 = .ok (.iconst 0, 1) := by decide +kernel
theorem dX12_ask_59 : decode cX12_ask 59 = .ok (.istore_n 2, 1) := by decide +kernel
theorem dX12_ask_60 : decode cX12_ask 60 = .ok (.aload_n 0, 1) := by decide +kernel
theorem dX12_ask_61 : decode cX12_ask 61 = .ok (.getfield 46, 3) := by decide +kernel
theorem dX12_ask_64 : decode cX12_ask 64 = .ok (.bipush 8, 2) := by decide +kernel
theorem dX12_ask_66 : decode cX12_ask 66 = .ok (.aload_n 0, 1) := by decide +kernel
theorem dX12_ask_67 : decode cX12_ask 67 = .ok (.getfield 191, 3) := by decide +kernel
theorem dX12_ask_70 : decode cX12_ask 70 = .ok (.imul, 1) := by decide +kernel
theorem dX12_ask_71 : decode cX12_ask 71 = .ok (.iconst 2, 1) := by decide +kernel
theorem dX12_ask_72 : decode cX12_ask 72 = .ok (.iload_n 1, 1) := by decide +kernel
theorem dX12_ask_73 : decode cX12_ask 73 = .ok (.imul, 1) := by decide +kernel
theorem dX12_ask_74 : decode cX12_ask 74 = .ok (.iadd, 1) := by decide +kernel
theorem dX12_ask_75 : decode cX12_ask 75 = .ok (.iload_n 2, 1) := by decide +kernel
theorem dX12_ask_76 : decode cX12_ask 76 = .ok (.ifCond .eq 7, 3) := by decide +kernel
theorem dX12_ask_79 : decode cX12_ask 79 = .ok (.iconst 0, 1) := by decide +kernel
theorem dX12_ask_80 : decode cX12_ask 80 = .ok (.goto 11, 3) := by decide +kernel
theorem dX12_ask_83 : decode cX12_ask 83 = .ok (.aload_n 0, 1) := by decide +kernel
theorem dX12_ask_84 : decode cX12_ask 84 = .ok (.getfield 70, 3) := by decide +kernel
theorem dX12_ask_87 : decode cX12_ask 87 = .ok (.iconst 2, 1) := by decide +kernel
theorem dX12_ask_88 : decode cX12_ask 88 = .ok (.iload_n 1, 1) := by decide +kernel
theorem dX12_ask_89 : decode cX12_ask 89 = .ok (.imul, 1) := by decide +kernel
theorem dX12_ask_90 : decode cX12_ask 90 = .ok (.iaload, 1) := by decide +kernel
theorem dX12_ask_91 : decode cX12_ask 91 = .ok (.iastore, 1) := by decide +kernel
theorem dX12_ask_92 : decode cX12_ask 92 = .ok (.aload_n 0, 1) := by decide +kernel
theorem dX12_ask_93 : decode cX12_ask 93 = .ok (.getfield 46, 3) := by decide +kernel
theorem dX12_ask_96 : decode cX12_ask 96 = .ok (.bipush 8, 2) := by decide +kernel
theorem dX12_ask_98 : decode cX12_ask 98 = .ok (.aload_n 0, 1) := by decide +kernel
theorem dX12_ask_99 : decode cX12_ask 99 = .ok (.getfield 191, 3) := by decide +kernel
theorem dX12_ask_102 : decode cX12_ask 102 = .ok (.imul, 1) := by decide +kernel
theorem dX12_ask_103 : decode cX12_ask 103 = .ok (.iconst 2, 1) := by decide +kernel
theorem dX12_ask_104 : decode cX12_ask 104 = .ok (.iload_n 1, 1) := by decide +kernel
theorem dX12_ask_105 : decode cX12_ask 105 = .ok (.imul, 1) := by decide +kernel
theorem dX12_ask_106 : decode cX12_ask 106 = .ok (.iadd, 1) := by decide +kernel
theorem dX12_ask_107 : decode cX12_ask 107 = .ok (.iconst 1, 1) := by decide +kernel
theorem dX12_ask_108 : decode cX12_ask 108 = .ok (.iadd, 1) := by decide +kernel
theorem dX12_ask_109 : decode cX12_ask 109 = .ok (.iload_n 2, 1) := by decide +kernel
theorem dX12_ask_110 : decode cX12_ask 110 = .ok (.ifCond .eq 7, 3) := by decide +kernel
theorem dX12_ask_113 : decode cX12_ask 113 = .ok (.iconst (-1), 1) := by decide +kernel
theorem dX12_ask_114 : decode cX12_ask 114 = .ok (.goto 13, 3) := by decide +kernel
theorem dX12_ask_117 : decode cX12_ask 117 = .ok (.aload_n 0, 1) := by decide +kernel
theorem dX12_ask_118 : decode cX12_ask 118 = .ok (.getfield 70, 3) := by decide +kernel
theorem dX12_ask_121 : decode cX12_ask 121 = .ok (.iconst 2, 1) := by decide +kernel
theorem dX12_ask_122 : decode cX12_ask 122 = .ok (.iload_n 1, 1) := by decide +kernel
theorem dX12_ask_123 : decode cX12_ask 123 = .ok (.imul, 1) := by decide +kernel
theorem dX12_ask_124 : decode cX12_ask 124 = .ok (.iconst 1, 1) := by decide +kernel
theorem dX12_ask_125 : decode cX12_ask 125 = .ok (.iadd, 1) := by decide +kernel
theorem dX12_ask_126 : decode cX12_ask 126 = .ok (.iaload, 1) := by decide +kernel
theorem dX12_ask_127 : decode cX12_ask 127 = .ok (.iastore, 1) := by decide +kernel
theorem dX12_ask_128 : decode cX12_ask 128 = .ok (.iinc 1 1, 3) := by decide +kernel
theorem dX12_ask_131 : decode cX12_ask 131 = .ok (.goto (-103), 3) := by decide +kernel
theorem dX12_ask_134 : decode cX12_ask 134 = .ok (.aload_n 0, 1) := by decide +kernel
theorem dX12_ask_135 : decode cX12_ask 135 = .ok (.getfield 49, 3) := by decide +kernel
theorem dX12_ask_138 : decode cX12_ask 138 = .ok (.aload_n 0, 1) := by decide +kernel
theorem dX12_ask_139 : decode cX12_ask 139 = .ok (.getfield 191, 3) := by decide +kernel
theorem dX12_ask_142 : decode cX12_ask 142 = .ok (.aload_n 0, 1) := by decide +kernel
theorem dX12_ask_143 : decode cX12_ask 143 = .ok (.getfield 171, 3) := by decide +kernel
theorem dX12_ask_146 : decode cX12_ask 146 = .ok (.iastore, 1) := by decide +kernel
theorem dX12_ask_147 : decode cX12_ask 147 = .ok (.aload_n 0, 1) := by decide +kernel
theorem dX12_ask_148 : decode cX12_ask 148 = .ok (.getfield 52, 3) := by decide +kernel
theorem dX12_ask_151 : decode cX12_ask 151 = .ok (.aload_n 0, 1) := by decide +kernel
theorem dX12_ask_152 : decode cX12_ask 152 = .ok (.getfield 191, 3) := by decide +kernel
theorem dX12_ask_155 : decode cX12_ask 155 = .ok (.aload_n 0, 1) := by decide +kernel
theorem dX12_ask_156 : decode cX12_ask 156 = .ok (.getfield 174, 3) := by decide +kernel
theorem dX12_ask_159 : decode cX12_ask 159 = .ok (.iastore, 1) := by decide +kernel
theorem dX12_ask_160 : decode cX12_ask 160 = .ok (.aload_n 0, 1) := by decide +kernel
theorem dX12_ask_161 : decode cX12_ask 161 = .ok (.getfield 55, 3) := by decide +kernel
theorem dX12_ask_164 : decode cX12_ask 164 = .ok (.aload_n 0, 1) := by decide +kernel
theorem dX12_ask_165 : decode cX12_ask 165 = .ok (.getfield 191, 3) := by decide +kernel
theorem dX12_ask_168 : decode cX12_ask 168 = .ok (.iconst 1, 1) := by decide +kernel
theorem dX12_ask_169 : decode cX12_ask 169 = .ok (.iastore, 1) := by decide +kernel
theorem dX12_ask_170 : decode cX12_ask 170 = .ok (.aload_n 0, 1) := by decide +kernel
theorem dX12_ask_171 : decode cX12_ask 171 = .ok (.dup, 1) := by decide +kernel
theorem dX12_ask_172 : decode cX12_ask 172 = .ok (.getfield 191, 3) := by decide +kernel
theorem dX12_ask_175 : decode cX12_ask 175 = .ok (.iconst 1, 1) := by decide +kernel
theorem dX12_ask_176 : decode cX12_ask 176 = .ok (.iadd, 1) := by decide +kernel
theorem dX12_ask_177 : decode cX12_ask 177 = .ok (.putfield 191, 3) := by decide +kernel
theorem dX12_ask_180 : decode cX12_ask 180 = .ok (.aload_n 0, 1) := by decide +kernel
theorem dX12_ask_181 : decode cX12_ask 181 = .ok (.iconst 0, 1) := by decide +kernel
theorem dX12_ask_182 : decode cX12_ask 182 = .ok (.putfield 168, 3) := by decide +kernel
theorem dX12_ask_185 : decode cX12_ask 185 = .ok (.aload_n 0, 1) := by decide +kernel
theorem dX12_ask_186 : decode cX12_ask 186 = .ok (.getfield 191, 3) := by decide +kernel
theorem dX12_ask_189 : decode cX12_ask 189 = .ok (.iconst 1, 1) := by decide +kernel
theorem dX12_ask_190 : decode cX12_ask 190 = .ok (.isub, 1) := by decide +kernel
theorem dX12_ask_191 : decode cX12_ask 191 = .ok (.ireturn, 1) := by decide +kernel
theorem dX12_isQuestion_0 : decode cX12_isQuestion 0 = .ok (.iload_n 1, 1) := by decide +kernel
theorem dX12_isQuestion_1 : decode cX12_isQuestion 1 = .ok (.iconst 0, 1) := by decide +kernel
theorem dX12_isQuestion_2 : decode cX12_isQuestion 2 = .ok (.aload_n 0, 1) := by decide +kernel
theorem dX12_isQuestion_3 : decode cX12_isQuestion 3 = .ok (.getfield 191, 3) := by decide +kernel
theorem dX12_isQuestion_6 : decode cX12_isQuestion 6 = .ok (.iconst 1, 1) := by decide +kernel
theorem dX12_isQuestion_7 : decode cX12_isQuestion 7 = .ok (.isub, 1) := by decide +kernel
theorem dX12_isQuestion_8 : decode cX12_isQuestion 8 = .ok (.invokestatic 82, 3) := by decide +kernel
theorem dX12_isQuestion_11 : decode cX12_isQuestion 11 = .ok (.ireturn, 1) := by decide +kernel
theorem dX12_leastOf_0 : decode cX12_leastOf 0 = .ok (.aload_n 0, 1) := by decide +kernel
theorem dX12_leastOf_1 : decode cX12_leastOf 1 = .ok (.getfield 46, 3) := by decide +kernel
theorem dX12_leastOf_4 : decode cX12_leastOf 4 = .ok (.bipush 8, 2) := by decide +kernel
theorem dX12_leastOf_6 : decode cX12_leastOf 6 = .ok (.iload_n 1, 1) := by decide +kernel
theorem dX12_leastOf_7 : decode cX12_leastOf 7 = .ok (.imul, 1) := by decide +kernel
theorem dX12_leastOf_8 : decode cX12_leastOf 8 = .ok (.iconst 2, 1) := by decide +kernel
theorem dX12_leastOf_9 : decode cX12_leastOf 9 = .ok (.iload_n 2, 1) := by decide +kernel
theorem dX12_leastOf_10 : decode cX12_leastOf 10 = .ok (.imul, 1) := by decide +kernel
theorem dX12_leastOf_11 : decode cX12_leastOf 11 = .ok (.iadd, 1) := by decide +kernel
theorem dX12_leastOf_12 : decode cX12_leastOf 12 = .ok (.iaload, 1) := by decide +kernel
theorem dX12_leastOf_13 : decode cX12_leastOf 13 = .ok (.ireturn, 1) := by decide +kernel
theorem dX12_mostOf_0 : decode cX12_mostOf 0 = .ok (.aload_n 0, 1) := by decide +kernel
theorem dX12_mostOf_1 : decode cX12_mostOf 1 = .ok (.getfield 46, 3) := by decide +kernel
theorem dX12_mostOf_4 : decode cX12_mostOf 4 = .ok (.bipush 8, 2) := by decide +kernel
theorem dX12_mostOf_6 : decode cX12_mostOf 6 = .ok (.iload_n 1, 1) := by decide +kernel
theorem dX12_mostOf_7 : decode cX12_mostOf 7 = .ok (.imul, 1) := by decide +kernel
theorem dX12_mostOf_8 : decode cX12_mostOf 8 = .ok (.iconst 2, 1) := by decide +kernel
theorem dX12_mostOf_9 : decode cX12_mostOf 9 = .ok (.iload_n 2, 1) := by decide +kernel
theorem dX12_mostOf_10 : decode cX12_mostOf 10 = .ok (.imul, 1) := by decide +kernel
theorem dX12_mostOf_11 : decode cX12_mostOf 11 = .ok (.iadd, 1) := by decide +kernel
theorem dX12_mostOf_12 : decode cX12_mostOf 12 = .ok (.iconst 1, 1) := by decide +kernel
theorem dX12_mostOf_13 : decode cX12_mostOf 13 = .ok (.iadd, 1) := by decide +kernel
theorem dX12_mostOf_14 : decode cX12_mostOf 14 = .ok (.iaload, 1) := by decide +kernel
theorem dX12_mostOf_15 : decode cX12_mostOf 15 = .ok (.ireturn, 1) := by decide +kernel
theorem dX12_isFixed_0 : decode cX12_isFixed 0 = .ok (.aload_n 0, 1) := by decide +kernel
theorem dX12_isFixed_1 : decode cX12_isFixed 1 = .ok (.iload_n 1, 1) := by decide +kernel
theorem dX12_isFixed_2 : decode cX12_isFixed 2 = .ok (.iload_n 2, 1) := by decide +kernel
theorem dX12_isFixed_3 : decode cX12_isFixed 3 = .ok (.invokevirtual 194, 3) := by decide +kernel
theorem dX12_isFixed_6 : decode cX12_isFixed 6 = .ok (.aload_n 0, 1) := by decide +kernel
theorem dX12_isFixed_7 : decode cX12_isFixed 7 = .ok (.iload_n 1, 1) := by decide +kernel
theorem dX12_isFixed_8 : decode cX12_isFixed 8 = .ok (.iload_n 2, 1) := by decide +kernel
theorem dX12_isFixed_9 : decode cX12_isFixed 9 = .ok (.invokevirtual 197, 3) := by decide +kernel
theorem dX12_isFixed_12 : decode cX12_isFixed 12 = .ok (.if_icmp .ne 7, 3) := by decide +kernel
theorem dX12_isFixed_15 : decode cX12_isFixed 15 = .ok (.iconst 1, 1) := by decide +kernel
theorem dX12_isFixed_16 : decode cX12_isFixed 16 = .ok (.goto 4, 3) := by decide +kernel
theorem dX12_isFixed_19 : decode cX12_isFixed 19 = .ok (.iconst 0, 1) := by decide +kernel
theorem dX12_isFixed_20 : decode cX12_isFixed 20 = .ok (.ireturn, 1) := by decide +kernel
theorem dX12_isBound_0 : decode cX12_isBound 0 = .ok (.aload_n 0, 1) := by decide +kernel
theorem dX12_isBound_1 : decode cX12_isBound 1 = .ok (.iload_n 1, 1) := by decide +kernel
theorem dX12_isBound_2 : decode cX12_isBound 2 = .ok (.iload_n 2, 1) := by decide +kernel
theorem dX12_isBound_3 : decode cX12_isBound 3 = .ok (.invokevirtual 194, 3) := by decide +kernel
theorem dX12_isBound_6 : decode cX12_isBound 6 = .ok (.ifCond .ne 14, 3) := by decide +kernel
theorem dX12_isBound_9 : decode cX12_isBound 9 = .ok (.aload_n 0, 1) := by decide +kernel
theorem dX12_isBound_10 : decode cX12_isBound 10 = .ok (.iload_n 1, 1) := by decide +kernel
theorem dX12_isBound_11 : decode cX12_isBound 11 = .ok (.iload_n 2, 1) := by decide +kernel
theorem dX12_isBound_12 : decode cX12_isBound 12 = .ok (.invokevirtual 197, 3) := by decide +kernel
theorem dX12_isBound_15 : decode cX12_isBound 15 = .ok (.bipush 99, 2) := by decide +kernel
theorem dX12_isBound_17 : decode cX12_isBound 17 = .ok (.if_icmp .eq 7, 3) := by decide +kernel
theorem dX12_isBound_20 : decode cX12_isBound 20 = .ok (.iconst 1, 1) := by decide +kernel
theorem dX12_isBound_21 : decode cX12_isBound 21 = .ok (.goto 4, 3) := by decide +kernel
theorem dX12_isBound_24 : decode cX12_isBound 24 = .ok (.iconst 0, 1) := by decide +kernel
theorem dX12_isBound_25 : decode cX12_isBound 25 = .ok (.ireturn, 1) := by decide +kernel
theorem dX12_isWithin_0 : decode cX12_isWithin 0 = .ok (.aload_n 0, 1) := by decide +kernel
theorem dX12_isWithin_1 : decode cX12_isWithin 1 = .ok (.getfield 13, 3) := by decide +kernel
theorem dX12_isWithin_4 : decode cX12_isWithin 4 = .ok (.iconst 4, 1) := by decide +kernel
theorem dX12_isWithin_5 : decode cX12_isWithin 5 = .ok (.iload_n 3, 1) := by decide +kernel
theorem dX12_isWithin_6 : decode cX12_isWithin 6 = .ok (.imul, 1) := by decide +kernel
theorem dX12_isWithin_7 : decode cX12_isWithin 7 = .ok (.iload_n 2, 1) := by decide +kernel
theorem dX12_isWithin_8 : decode cX12_isWithin 8 = .ok (.iadd, 1) := by decide +kernel
theorem dX12_isWithin_9 : decode cX12_isWithin 9 = .ok (.iaload, 1) := by decide +kernel
theorem dX12_isWithin_10 : decode cX12_isWithin 10 = .ok (.aload_n 0, 1) := by decide +kernel
theorem dX12_isWithin_11 : decode cX12_isWithin 11 = .ok (.iload_n 1, 1) := by decide +kernel
theorem dX12_isWithin_12 : decode cX12_isWithin 12 = .ok (.iload_n 2, 1) := by decide +kernel
theorem dX12_isWithin_13 : decode cX12_isWithin 13 = .ok (.invokevirtual 194, 3) := by decide +kernel
theorem dX12_isWithin_16 : decode cX12_isWithin 16 = .ok (.aload_n 0, 1) := by decide +kernel
theorem dX12_isWithin_17 : decode cX12_isWithin 17 = .ok (.iload_n 1, 1) := by decide +kernel
theorem dX12_isWithin_18 : decode cX12_isWithin 18 = .ok (.iload_n 2, 1) := by decide +kernel
theorem dX12_isWithin_19 : decode cX12_isWithin 19 = .ok (.invokevirtual 197, 3) := by decide +kernel
theorem dX12_isWithin_22 : decode cX12_isWithin 22 = .ok (.invokestatic 82, 3) := by decide +kernel
theorem dX12_isWithin_25 : decode cX12_isWithin 25 = .ok (.ireturn, 1) := by decide +kernel
theorem dX12_bound_0 : decode cX12_bound 0 = .ok (.aload_n 0, 1) := by decide +kernel
theorem dX12_bound_1 : decode cX12_bound 1 = .ok (.iload_n 1, 1) := by decide +kernel
theorem dX12_bound_2 : decode cX12_bound 2 = .ok (.invokevirtual 200, 3) := by decide +kernel
theorem dX12_bound_5 : decode cX12_bound 5 = .ok (.ifCond .eq 12, 3) := by decide +kernel
theorem dX12_bound_8 : decode cX12_bound 8 = .ok (.iload_n 2, 1) := by decide +kernel
theorem dX12_bound_9 : decode cX12_bound 9 = .ok (.iconst 0, 1) := by decide +kernel
theorem dX12_bound_10 : decode cX12_bound 10 = .ok (.iconst 3, 1) := by decide +kernel
theorem dX12_bound_11 : decode cX12_bound 11 = .ok (.invokestatic 82, 3) := by decide +kernel
theorem dX12_bound_14 : decode cX12_bound 14 = .ok (.ifCond .ne 6, 3) := by decide +kernel
theorem dX12_bound_17 : decode cX12_bound 17 = .ok (.bipush (-101), 2) := by decide +kernel
theorem dX12_bound_19 : decode cX12_bound 19 = .ok (.ireturn, 1) := by decide +kernel
theorem dX12_bound_20 : decode cX12_bound 20 = .ok (.iload_n 3, 1) := by decide +kernel
theorem dX12_bound_21 : decode cX12_bound 21 = .ok (.iconst 0, 1) := by decide +kernel
theorem dX12_bound_22 : decode cX12_bound 22 = .ok (.iconst 1, 1) := by decide +kernel
theorem dX12_bound_23 : decode cX12_bound 23 = .ok (.invokestatic 82, 3) := by decide +kernel
theorem dX12_bound_26 : decode cX12_bound 26 = .ok (.ifCond .eq 21, 3) := by decide +kernel
theorem dX12_bound_29 : decode cX12_bound 29 = .ok (.aload_n 0, 1) := by decide +kernel
theorem dX12_bound_30 : decode cX12_bound 30 = .ok (.getfield 46, 3) := by decide +kernel
theorem dX12_bound_33 : decode cX12_bound 33 = .ok (.bipush 8, 2) := by decide +kernel
theorem dX12_bound_35 : decode cX12_bound 35 = .ok (.iload_n 1, 1) := by decide +kernel
theorem dX12_bound_36 : decode cX12_bound 36 = .ok (.imul, 1) := by decide +kernel
theorem dX12_bound_37 : decode cX12_bound 37 = .ok (.iconst 2, 1) := by decide +kernel
theorem dX12_bound_38 : decode cX12_bound 38 = .ok (.iload_n 2, 1) := by decide +kernel
theorem dX12_bound_39 : decode cX12_bound 39 = .ok (.imul, 1) := by decide +kernel
theorem dX12_bound_40 : decode cX12_bound 40 = .ok (.iadd, 1) := by decide +kernel
theorem dX12_bound_41 : decode cX12_bound 41 = .ok (.iload_n 3, 1) := by decide +kernel
theorem dX12_bound_42 : decode cX12_bound 42 = .ok (.iadd, 1) := by decide +kernel
theorem dX12_bound_43 : decode cX12_bound 43 = .ok (.iaload, 1) := by decide +kernel
theorem dX12_bound_44 : decode cX12_bound 44 = .ok (.goto 5, 3) := by decide +kernel
theorem dX12_bound_47 : decode cX12_bound 47 = .ok (.bipush (-102), 2) := by decide +kernel
theorem dX12_bound_49 : decode cX12_bound 49 = .ok (.ireturn, 1) := by decide +kernel
theorem dX12_weight_0 : decode cX12_weight 0 = .ok (.aload_n 0, 1) := by decide +kernel
theorem dX12_weight_1 : decode cX12_weight 1 = .ok (.iload_n 1, 1) := by decide +kernel
theorem dX12_weight_2 : decode cX12_weight 2 = .ok (.invokevirtual 200, 3) := by decide +kernel
theorem dX12_weight_5 : decode cX12_weight 5 = .ok (.ifCond .ne 6, 3) := by decide +kernel
theorem dX12_weight_8 : decode cX12_weight 8 = .ok (.bipush (-101), 2) := by decide +kernel
theorem dX12_weight_10 : decode cX12_weight 10 = .ok (.ireturn, 1) := by decide +kernel
theorem dX12_weight_11 : decode cX12_weight 11 = .ok (.iload_n 2, 1) := by decide +kernel
theorem dX12_weight_12 : decode cX12_weight 12 = .ok (.invokestatic 136, 3) := by decide +kernel
theorem dX12_weight_15 : decode cX12_weight 15 = .ok (.ifCond .ne 6, 3) := by decide +kernel
theorem dX12_weight_18 : decode cX12_weight 18 = .ok (.bipush (-102), 2) := by decide +kernel
theorem dX12_weight_20 : decode cX12_weight 20 = .ok (.ireturn, 1) := by decide +kernel
theorem dX12_weight_21 : decode cX12_weight 21 = .ok (.aload_n 0, 1) := by decide +kernel
theorem dX12_weight_22 : decode cX12_weight 22 = .ok (.getfield 55, 3) := by decide +kernel
theorem dX12_weight_25 : decode cX12_weight 25 = .ok (.iload_n 1, 1) := by decide +kernel
theorem dX12_weight_26 : decode cX12_weight 26 = .ok (.iaload, 1) := by decide +kernel
theorem dX12_weight_27 : decode cX12_weight 27 = .ok (.istore_n 3, 1) := by decide +kernel
theorem dX12_weight_28 : decode cX12_weight 28 = .ok (.aload_n 0, 1) := by decide +kernel
theorem dX12_weight_29 : decode cX12_weight 29 = .ok (.getfield 55, 3) := by decide +kernel
theorem dX12_weight_32 : decode cX12_weight 32 = .ok (.iload_n 1, 1) := by decide +kernel
theorem dX12_weight_33 : decode cX12_weight 33 = .ok (.iload_n 2, 1) := by decide +kernel
theorem dX12_weight_34 : decode cX12_weight 34 = .ok (.iastore, 1) := by decide +kernel
theorem dX12_weight_35 : decode cX12_weight 35 = .ok (.iload_n 3, 1) := by decide +kernel
theorem dX12_weight_36 : decode cX12_weight 36 = .ok (.ireturn, 1) := by decide +kernel
theorem dX12_isAnswer_0 : decode cX12_isAnswer 0 = .ok (.aload_n 0, 1) := by decide +kernel
theorem dX12_isAnswer_1 : decode cX12_isAnswer 1 = .ok (.getfield 7, 3) := by decide +kernel
theorem dX12_isAnswer_4 : decode cX12_isAnswer 4 = .ok (.iload_n 2, 1) := by decide +kernel
theorem dX12_isAnswer_5 : decode cX12_isAnswer 5 = .ok (.baload, 1) := by decide +kernel
theorem dX12_isAnswer_6 : decode cX12_isAnswer 6 = .ok (.ifCond .eq 47, 3) := by decide +kernel
theorem dX12_isAnswer_9 : decode cX12_isAnswer 9 = .ok (.aload_n 0, 1) := by decide +kernel
theorem dX12_isAnswer_10 : decode cX12_isAnswer 10 = .ok (.iload_n 1, 1) := by decide +kernel
theorem dX12_isAnswer_11 : decode cX12_isAnswer 11 = .ok (.iconst 0, 1) := by decide +kernel
theorem dX12_isAnswer_12 : decode cX12_isAnswer 12 = .ok (.iload_n 2, 1) := by decide +kernel
theorem dX12_isAnswer_13 : decode cX12_isAnswer 13 = .ok (.invokevirtual 203, 3) := by decide +kernel
theorem dX12_isAnswer_16 : decode cX12_isAnswer 16 = .ok (.ifCond .eq 37, 3) := by decide +kernel
theorem dX12_isAnswer_19 : decode cX12_isAnswer 19 = .ok (.aload_n 0, 1) := by decide +kernel
theorem dX12_isAnswer_20 : decode cX12_isAnswer 20 = .ok (.iload_n 1, 1) := by decide +kernel
theorem dX12_isAnswer_21 : decode cX12_isAnswer 21 = .ok (.iconst 1, 1) := by decide +kernel
theorem dX12_isAnswer_22 : decode cX12_isAnswer 22 = .ok (.iload_n 2, 1) := by decide +kernel
theorem dX12_isAnswer_23 : decode cX12_isAnswer 23 = .ok (.invokevirtual 203, 3) := by decide +kernel
theorem dX12_isAnswer_26 : decode cX12_isAnswer 26 = .ok (.ifCond .eq 27, 3) := by decide +kernel
theorem dX12_isAnswer_29 : decode cX12_isAnswer 29 = .ok (.aload_n 0, 1) := by decide +kernel
theorem dX12_isAnswer_30 : decode cX12_isAnswer 30 = .ok (.iload_n 1, 1) := by decide +kernel
theorem dX12_isAnswer_31 : decode cX12_isAnswer 31 = .ok (.iconst 2, 1) := by decide +kernel
theorem dX12_isAnswer_32 : decode cX12_isAnswer 32 = .ok (.iload_n 2, 1) := by decide +kernel
theorem dX12_isAnswer_33 : decode cX12_isAnswer 33 = .ok (.invokevirtual 203, 3) := by decide +kernel
theorem dX12_isAnswer_36 : decode cX12_isAnswer 36 = .ok (.ifCond .eq 17, 3) := by decide +kernel
theorem dX12_isAnswer_39 : decode cX12_isAnswer 39 = .ok (.aload_n 0, 1) := by decide +kernel
theorem dX12_isAnswer_40 : decode cX12_isAnswer 40 = .ok (.iload_n 1, 1) := by decide +kernel
theorem dX12_isAnswer_41 : decode cX12_isAnswer 41 = .ok (.iconst 3, 1) := by decide +kernel
theorem dX12_isAnswer_42 : decode cX12_isAnswer 42 = .ok (.iload_n 2, 1) := by decide +kernel
theorem dX12_isAnswer_43 : decode cX12_isAnswer 43 = .ok (.invokevirtual 203, 3) := by decide +kernel
theorem dX12_isAnswer_46 : decode cX12_isAnswer 46 = .ok (.ifCond .eq 7, 3) := by decide +kernel
theorem dX12_isAnswer_49 : decode cX12_isAnswer 49 = .ok (.iconst 1, 1) := by decide +kernel
theorem dX12_isAnswer_50 : decode cX12_isAnswer 50 = .ok (.goto 4, 3) := by decide +kernel
theorem dX12_isAnswer_53 : decode cX12_isAnswer 53 = .ok (.iconst 0, 1) := by decide +kernel
theorem dX12_isAnswer_54 : decode cX12_isAnswer 54 = .ok (.ireturn, 1) := by decide +kernel
theorem dX12_answersOf_0 : decode cX12_answersOf 0 = .ok (.iconst 0, 1) := by decide +kernel
theorem dX12_answersOf_1 : decode cX12_answersOf 1 = .ok (.istore_n 2, 1) := by decide +kernel
theorem dX12_answersOf_2 : decode cX12_answersOf 2 = .ok (.iconst 0, 1) := by decide +kernel
theorem dX12_answersOf_3 : decode cX12_answersOf 3 = .ok (.istore_n 3, 1) := by decide +kernel
theorem dX12_answersOf_4 : decode cX12_answersOf 4 = .ok (.iload_n 3, 1) := by decide +kernel
theorem dX12_answersOf_5 : decode cX12_answersOf 5 = .ok (.bipush 64, 2) := by decide +kernel
theorem dX12_answersOf_7 : decode cX12_answersOf 7 = .ok (.if_icmp .ge 26, 3) := by decide +kernel
theorem dX12_answersOf_10 : decode cX12_answersOf 10 = .ok (.iload_n 2, 1) := by decide +kernel
theorem dX12_answersOf_11 : decode cX12_answersOf 11 = .ok (.aload_n 0, 1) := by decide +kernel
theorem dX12_answersOf_12 : decode cX12_answersOf 12 = .ok (.iload_n 1, 1) := by decide +kernel
theorem dX12_answersOf_13 : decode cX12_answersOf 13 = .ok (.iload_n 3, 1) := by decide +kernel
theorem dX12_answersOf_14 : decode cX12_answersOf 14 = .ok (.invokevirtual 206, 3) := by decide +kernel
theorem dX12_answersOf_17 : decode cX12_answersOf 17 = .ok (.ifCond .eq 7, 3) := by decide +kernel
theorem dX12_answersOf_20 : decode cX12_answersOf 20 = .ok (.iconst 1, 1) := by decide +kernel
theorem dX12_answersOf_21 : decode cX12_answersOf 21 = .ok (.goto 4, 3) := by decide +kernel
theorem dX12_answersOf_24 : decode cX12_answersOf 24 = .ok (.iconst 0, 1) := by decide +kernel
theorem dX12_answersOf_25 : decode cX12_answersOf 25 = .ok (.iadd, 1) := by decide +kernel
theorem dX12_answersOf_26 : decode cX12_answersOf 26 = .ok (.istore_n 2, 1) := by decide +kernel
theorem dX12_answersOf_27 : decode cX12_answersOf 27 = .ok (.iinc 3 1, 3) := by decide +kernel
theorem dX12_answersOf_30 : decode cX12_answersOf 30 = .ok (.goto (-26), 3) := by decide +kernel
theorem dX12_answersOf_33 : decode cX12_answersOf 33 = .ok (.iload_n 2, 1) := by decide +kernel
theorem dX12_answersOf_34 : decode cX12_answersOf 34 = .ok (.ireturn, 1) := by decide +kernel
theorem dX12_answers_0 : decode cX12_answers 0 = .ok (.aload_n 0, 1) := by decide +kernel
theorem dX12_answers_1 : decode cX12_answers 1 = .ok (.iload_n 1, 1) := by decide +kernel
theorem dX12_answers_2 : decode cX12_answers 2 = .ok (.invokevirtual 200, 3) := by decide +kernel
theorem dX12_answers_5 : decode cX12_answers 5 = .ok (.ifCond .eq 11, 3) := by decide +kernel
theorem dX12_answers_8 : decode cX12_answers 8 = .ok (.aload_n 0, 1) := by decide +kernel
theorem dX12_answers_9 : decode cX12_answers 9 = .ok (.iload_n 1, 1) := by decide +kernel
theorem dX12_answers_10 : decode cX12_answers 10 = .ok (.invokevirtual 210, 3) := by decide +kernel
theorem dX12_answers_13 : decode cX12_answers 13 = .ok (.goto 5, 3) := by decide +kernel
theorem dX12_answers_16 : decode cX12_answers 16 = .ok (.bipush (-101), 2) := by decide +kernel
theorem dX12_answers_18 : decode cX12_answers 18 = .ok (.ireturn, 1) := by decide +kernel
theorem dX12_answer_0 : decode cX12_answer 0 = .ok (.aload_n 0, 1) := by decide +kernel
theorem dX12_answer_1 : decode cX12_answer 1 = .ok (.iload_n 1, 1) := by decide +kernel
theorem dX12_answer_2 : decode cX12_answer 2 = .ok (.invokevirtual 200, 3) := by decide +kernel
theorem dX12_answer_5 : decode cX12_answer 5 = .ok (.ifCond .ne 6, 3) := by decide +kernel
theorem dX12_answer_8 : decode cX12_answer 8 = .ok (.bipush (-101), 2) := by decide +kernel
theorem dX12_answer_10 : decode cX12_answer 10 = .ok (.ireturn, 1) := by decide +kernel
theorem dX12_answer_11 : decode cX12_answer 11 = .ok (.aload_n 0, 1) := by decide +kernel
theorem dX12_answer_12 : decode cX12_answer 12 = .ok (.getfield 52, 3) := by decide +kernel
theorem dX12_answer_15 : decode cX12_answer 15 = .ok (.iload_n 1, 1) := by decide +kernel
theorem dX12_answer_16 : decode cX12_answer 16 = .ok (.iaload, 1) := by decide +kernel
theorem dX12_answer_17 : decode cX12_answer 17 = .ok (.istore_n 3, 1) := by decide +kernel
theorem dX12_answer_18 : decode cX12_answer 18 = .ok (.iconst 0, 1) := by decide +kernel
theorem dX12_answer_19 : decode cX12_answer 19 = .ok (.istore 4, 2) := by decide +kernel
theorem dX12_answer_21 : decode cX12_answer 21 = .ok (.iload 4, 2) := by decide +kernel
theorem dX12_answer_23 : decode cX12_answer 23 = .ok (.bipush 64, 2) := by decide +kernel
theorem dX12_answer_25 : decode cX12_answer 25 = .ok (.if_icmp .ge 118, 3) := by decide +kernel
theorem dX12_answer_28 : decode cX12_answer 28 = .ok (.aload_n 0, 1) := by decide +kernel
theorem dX12_answer_29 : decode cX12_answer 29 = .ok (.iload_n 1, 1) := by decide +kernel
theorem dX12_answer_30 : decode cX12_answer 30 = .ok (.iload 4, 2) := by decide +kernel
theorem dX12_answer_32 : decode cX12_answer 32 = .ok (.invokevirtual 206, 3) := by decide +kernel
theorem dX12_answer_35 : decode cX12_answer 35 = .ok (.ifCond .eq 102, 3) := by decide +kernel
theorem dX12_answer_38 : decode cX12_answer 38 = .ok (.iconst 0, 1) := by decide +kernel
theorem dX12_answer_39 : decode cX12_answer 39 = .ok (.istore 5, 2) := by decide +kernel
theorem dX12_answer_41 : decode cX12_answer 41 = .ok (.iconst 0, 1) := by decide +kernel
theorem dX12_answer_42 : decode cX12_answer 42 = .ok (.istore 6, 2) := by decide +kernel
theorem dX12_answer_44 : decode cX12_answer 44 = .ok (.iload 6, 2) := by decide +kernel
theorem dX12_answer_46 : decode cX12_answer 46 = .ok (.bipush 64, 2) := by decide +kernel
theorem dX12_answer_48 : decode cX12_answer 48 = .ok (.if_icmp .ge 80, 3) := by decide +kernel
theorem dX12_answer_51 : decode cX12_answer 51 = .ok (.iload_n 3, 1) := by decide +kernel
theorem dX12_answer_52 : decode cX12_answer 52 = .ok (.iconst (-1), 1) := by decide +kernel
theorem dX12_answer_53 : decode cX12_answer 53 = .ok (.if_icmp .ne 7, 3) := by decide +kernel
theorem dX12_answer_56 : decode cX12_answer 56 = .ok (.iconst 0, 1) := by decide +kernel
theorem dX12_answer_57 : decode cX12_answer 57 = .ok (.goto 26, 3) := by decide +kernel
theorem dX12_answer_60 : decode cX12_answer 60 = .ok (.aload_n 0, 1) := by decide +kernel
theorem dX12_answer_61 : decode cX12_answer 61 = .ok (.getfield 13, 3) := by decide +kernel
theorem dX12_answer_64 : decode cX12_answer 64 = .ok (.iconst 4, 1) := by decide +kernel
theorem dX12_answer_65 : decode cX12_answer 65 = .ok (.iload 6, 2) := by decide +kernel
theorem dX12_answer_67 : decode cX12_answer 67 = .ok (.imul, 1) := by decide +kernel
theorem dX12_answer_68 : decode cX12_answer 68 = .ok (.iload_n 3, 1) := by decide +kernel
theorem dX12_answer_69 : decode cX12_answer 69 = .ok (.iadd, 1) := by decide +kernel
theorem dX12_answer_70 : decode cX12_answer 70 = .ok (.iaload, 1) := by decide +kernel
theorem dX12_answer_71 : decode cX12_answer 71 = .ok (.aload_n 0, 1) := by decide +kernel
theorem dX12_answer_72 : decode cX12_answer 72 = .ok (.getfield 13, 3) := by decide +kernel
theorem dX12_answer_75 : decode cX12_answer 75 = .ok (.iconst 4, 1) := by decide +kernel
theorem dX12_answer_76 : decode cX12_answer 76 = .ok (.iload 4, 2) := by decide +kernel
theorem dX12_answer_78 : decode cX12_answer 78 = .ok (.imul, 1) := by decide +kernel
theorem dX12_answer_79 : decode cX12_answer 79 = .ok (.iload_n 3, 1) := by decide +kernel
theorem dX12_answer_80 : decode cX12_answer 80 = .ok (.iadd, 1) := by decide +kernel
theorem dX12_answer_81 : decode cX12_answer 81 = .ok (.iaload, 1) := by decide +kernel
theorem dX12_answer_82 : decode cX12_answer 82 = .ok (.isub, 1) := by decide +kernel
theorem dX12_answer_83 : decode cX12_answer 83 = .ok (.istore 7, 2) := by decide +kernel
theorem dX12_answer_85 : decode cX12_answer 85 = .ok (.iload 5, 2) := by decide +kernel
theorem dX12_answer_87 : decode cX12_answer 87 = .ok (.aload_n 0, 1) := by decide +kernel
theorem dX12_answer_88 : decode cX12_answer 88 = .ok (.iload_n 1, 1) := by decide +kernel
theorem dX12_answer_89 : decode cX12_answer 89 = .ok (.iload 6, 2) := by decide +kernel
theorem dX12_answer_91 : decode cX12_answer 91 = .ok (.invokevirtual 206, 3) := by decide +kernel
theorem dX12_answer_94 : decode cX12_answer 94 = .ok (.ifCond .eq 24, 3) := by decide +kernel
theorem dX12_answer_97 : decode cX12_answer 97 = .ok (.iload 7, 2) := by decide +kernel
theorem dX12_answer_99 : decode cX12_answer 99 = .ok (.ifCond .lt 15, 3) := by decide +kernel
theorem dX12_answer_102 : decode cX12_answer 102 = .ok (.iload 7, 2) := by decide +kernel
theorem dX12_answer_104 : decode cX12_answer 104 = .ok (.ifCond .ne 14, 3) := by decide +kernel
theorem dX12_answer_107 : decode cX12_answer 107 = .ok (.iload 6, 2) := by decide +kernel
theorem dX12_answer_109 : decode cX12_answer 109 = .ok (.iload 4, 2) := by decide +kernel
theorem dX12_answer_111 : decode cX12_answer 111 = .ok (.if_icmp .ge 7, 3) := by decide +kernel
theorem dX12_answer_114 : decode cX12_answer 114 = .ok (.iconst 1, 1) := by decide +kernel
theorem dX12_answer_115 : decode cX12_answer 115 = .ok (.goto 4, 3) := by decide +kernel
theorem dX12_answer_118 : decode cX12_answer 118 = .ok (.iconst 0, 1) := by decide +kernel
theorem dX12_answer_119 : decode cX12_answer 119 = .ok (.iadd, 1) := by decide +kernel
theorem dX12_answer_120 : decode cX12_answer 120 = .ok (.istore 5, 2) := by decide +kernel
theorem dX12_answer_122 : decode cX12_answer 122 = .ok (.iinc 6 1, 3) := by decide +kernel
theorem dX12_answer_125 : decode cX12_answer 125 = .ok (.goto (-81), 3) := by decide +kernel
theorem dX12_answer_128 : decode cX12_answer 128 = .ok (.iload 5, 2) := by decide +kernel
theorem dX12_answer_130 : decode cX12_answer 130 = .ok (.iload_n 2, 1) := by decide +kernel
theorem dX12_answer_131 : decode cX12_answer 131 = .ok (.if_icmp .ne 6, 3) := by decide +kernel
theorem dX12_answer_134 : decode cX12_answer 134 = .ok (.iload 4, 2) := by decide +kernel
theorem dX12_answer_136 : decode cX12_answer 136 = .ok (.ireturn, 1) := by decide +kernel
theorem dX12_answer_137 : decode cX12_answer 137 = .ok (.iinc 4 1, 3) := by decide +kernel
theorem dX12_answer_140 : decode cX12_answer 140 = .ok (.goto (-119), 3) := by decide +kernel
theorem dX12_answer_143 : decode cX12_answer 143 = .ok (.iconst (-1), 1) := by decide +kernel
theorem dX12_answer_144 : decode cX12_answer 144 = .ok (.ireturn, 1) := by decide +kernel
theorem dX12_runColumns_0 : decode cX12_runColumns 0 = .ok (.iconst 0, 1) := by decide +kernel
theorem dX12_runColumns_1 : decode cX12_runColumns 1 = .ok (.istore_n 3, 1) := by decide +kernel
theorem dX12_runColumns_2 : decode cX12_runColumns 2 = .ok (.iload_n 3, 1) := by decide +kernel
theorem dX12_runColumns_3 : decode cX12_runColumns 3 = .ok (.aload_n 0, 1) := by decide +kernel
theorem dX12_runColumns_4 : decode cX12_runColumns 4 = .ok (.getfield 21, 3) := by decide +kernel
theorem dX12_runColumns_7 : decode cX12_runColumns 7 = .ok (.iload_n 2, 1) := by decide +kernel
theorem dX12_runColumns_8 : decode cX12_runColumns 8 = .ok (.iaload, 1) := by decide +kernel
theorem dX12_runColumns_9 : decode cX12_runColumns 9 = .ok (.invokestatic 86, 3) := by decide +kernel
theorem dX12_runColumns_12 : decode cX12_runColumns 12 = .ok (.if_icmp .ge 27, 3) := by decide +kernel
theorem dX12_runColumns_15 : decode cX12_runColumns 15 = .ok (.aload_n 0, 1) := by decide +kernel
theorem dX12_runColumns_16 : decode cX12_runColumns 16 = .ok (.iload_n 1, 1) := by decide +kernel
theorem dX12_runColumns_17 : decode cX12_runColumns 17 = .ok (.aload_n 0, 1) := by decide +kernel
theorem dX12_runColumns_18 : decode cX12_runColumns 18 = .ok (.getfield 21, 3) := by decide +kernel
theorem dX12_runColumns_21 : decode cX12_runColumns 21 = .ok (.iload_n 2, 1) := by decide +kernel
theorem dX12_runColumns_22 : decode cX12_runColumns 22 = .ok (.iaload, 1) := by decide +kernel
theorem dX12_runColumns_23 : decode cX12_runColumns 23 = .ok (.iload_n 3, 1) := by decide +kernel
theorem dX12_runColumns_24 : decode cX12_runColumns 24 = .ok (.invokestatic 90, 3) := by decide +kernel
theorem dX12_runColumns_27 : decode cX12_runColumns 27 = .ok (.invokevirtual 213, 3) := by decide +kernel
theorem dX12_runColumns_30 : decode cX12_runColumns 30 = .ok (.ifCond .eq 9, 3) := by decide +kernel
theorem dX12_runColumns_33 : decode cX12_runColumns 33 = .ok (.iinc 3 1, 3) := by decide +kernel
theorem dX12_runColumns_36 : decode cX12_runColumns 36 = .ok (.goto (-34), 3) := by decide +kernel
theorem dX12_runColumns_39 : decode cX12_runColumns 39 = .ok (.iload_n 3, 1) := by decide +kernel
theorem dX12_runColumns_40 : decode cX12_runColumns 40 = .ok (.aload_n 0, 1) := by decide +kernel
theorem dX12_runColumns_41 : decode cX12_runColumns 41 = .ok (.getfield 21, 3) := by decide +kernel
theorem dX12_runColumns_44 : decode cX12_runColumns 44 = .ok (.iload_n 2, 1) := by decide +kernel
theorem dX12_runColumns_45 : decode cX12_runColumns 45 = .ok (.iaload, 1) := by decide +kernel
theorem dX12_runColumns_46 : decode cX12_runColumns 46 = .ok (.invokestatic 86, 3) := by decide +kernel
theorem dX12_runColumns_49 : decode cX12_runColumns 49 = .ok (.if_icmp .ge 27, 3) := by decide +kernel
theorem dX12_runColumns_52 : decode cX12_runColumns 52 = .ok (.aload_n 0, 1) := by decide +kernel
theorem dX12_runColumns_53 : decode cX12_runColumns 53 = .ok (.iload_n 1, 1) := by decide +kernel
theorem dX12_runColumns_54 : decode cX12_runColumns 54 = .ok (.aload_n 0, 1) := by decide +kernel
theorem dX12_runColumns_55 : decode cX12_runColumns 55 = .ok (.getfield 21, 3) := by decide +kernel
theorem dX12_runColumns_58 : decode cX12_runColumns 58 = .ok (.iload_n 2, 1) := by decide +kernel
theorem dX12_runColumns_59 : decode cX12_runColumns 59 = .ok (.iaload, 1) := by decide +kernel
theorem dX12_runColumns_60 : decode cX12_runColumns 60 = .ok (.iload_n 3, 1) := by decide +kernel
theorem dX12_runColumns_61 : decode cX12_runColumns 61 = .ok (.invokestatic 90, 3) := by decide +kernel
theorem dX12_runColumns_64 : decode cX12_runColumns 64 = .ok (.invokevirtual 216, 3) := by decide +kernel
theorem dX12_runColumns_67 : decode cX12_runColumns 67 = .ok (.ifCond .eq 9, 3) := by decide +kernel
theorem dX12_runColumns_70 : decode cX12_runColumns 70 = .ok (.iload_n 3, 1) := by decide +kernel
theorem dX12_runColumns_71 : decode cX12_runColumns 71 = .ok (.iconst 1, 1) := by decide +kernel
theorem dX12_runColumns_72 : decode cX12_runColumns 72 = .ok (.iadd, 1) := by decide +kernel
theorem dX12_runColumns_73 : decode cX12_runColumns 73 = .ok (.goto 4, 3) := by decide +kernel
theorem dX12_runColumns_76 : decode cX12_runColumns 76 = .ok (.iload_n 3, 1) := by decide +kernel
theorem dX12_runColumns_77 : decode cX12_runColumns 77 = .ok (.ireturn, 1) := by decide +kernel
theorem dX12_isInRun_0 : decode cX12_isInRun 0 = .ok (.iconst 0, 1) := by decide +kernel
theorem dX12_isInRun_1 : decode cX12_isInRun 1 = .ok (.istore 5, 2) := by decide +kernel
theorem dX12_isInRun_3 : decode cX12_isInRun 3 = .ok (.iload 5, 2) := by decide +kernel
theorem dX12_isInRun_5 : decode cX12_isInRun 5 = .ok (.iload 4, 2) := by decide +kernel
theorem dX12_isInRun_7 : decode cX12_isInRun 7 = .ok (.if_icmp .ge 31, 3) := by decide +kernel
theorem dX12_isInRun_10 : decode cX12_isInRun 10 = .ok (.aload_n 0, 1) := by decide +kernel
theorem dX12_isInRun_11 : decode cX12_isInRun 11 = .ok (.iload_n 1, 1) := by decide +kernel
theorem dX12_isInRun_12 : decode cX12_isInRun 12 = .ok (.aload_n 0, 1) := by decide +kernel
