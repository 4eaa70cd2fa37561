theorem dX10_waits_72 : decode cX10_waits 72 = .ok (.ireturn, 1) := by decide +kernel
theorem dX10_waits_73 : decode cX10_waits 73 = .ok (.aload_n 0, 1) := by decide +kernel
theorem dX10_waits_74 : decode cX10_waits 74 = .ok (.getfield 61, 3) := by decide +kernel
theorem dX10_waits_77 : decode cX10_waits 77 = .ok (.iload_n 2, 1) := by decide +kernel
theorem dX10_waits_78 : decode cX10_waits 78 = .ok (.invokevirtual 205, 3) := by decide +kernel
theorem dX10_waits_81 : decode cX10_waits 81 = .ok (.ireturn, 1) := by decide +kernel
theorem dX10_waits_82 : decode cX10_waits 82 = .ok (.aload_n 0, 1) := by decide +kernel
theorem dX10_waits_83 : decode cX10_waits 83 = .ok (.getfield 61, 3) := by decide +kernel
theorem dX10_waits_86 : decode cX10_waits 86 = .ok (.invokevirtual 208, 3) := by decide +kernel
theorem dX10_waits_89 : decode cX10_waits 89 = .ok (.ireturn, 1) := by decide +kernel
theorem dX10_waits_90 : decode cX10_waits 90 = .ok (.aload_n 0, 1) := by decide +kernel
theorem dX10_waits_91 : decode cX10_waits 91 = .ok (.getfield 61, 3) := by decide +kernel
theorem dX10_waits_94 : decode cX10_waits 94 = .ok (.invokevirtual 211, 3) := by decide +kernel
theorem dX10_waits_97 : decode cX10_waits 97 = .ok (.ireturn, 1) := by decide +kernel
theorem dX10_waits_98 : decode cX10_waits 98 = .ok (.aload_n 0, 1) := by decide +kernel
theorem dX10_waits_99 : decode cX10_waits 99 = .ok (.getfield 61, 3) := by decide +kernel
theorem dX10_waits_102 : decode cX10_waits 102 = .ok (.invokevirtual 214, 3) := by decide +kernel
theorem dX10_waits_105 : decode cX10_waits 105 = .ok (.ireturn, 1) := by decide +kernel
theorem dX10_waits_106 : decode cX10_waits 106 = .ok (.iconst (-1), 1) := by decide +kernel
theorem dX10_waits_107 : decode cX10_waits 107 = .ok (.ireturn, 1) := by decide +kernel
theorem dX10_lot_0 : decode cX10_lot 0 = .ok (.aload_n 0, 1) := by decide +kernel
theorem dX10_lot_1 : decode cX10_lot 1 = .ok (.getfield 61, 3) := by decide +kernel
theorem dX10_lot_4 : decode cX10_lot 4 = .ok (.getfield 198, 3) := by decide +kernel
theorem dX10_lot_7 : decode cX10_lot 7 = .ok (.ifCond .ne 7, 3) := by decide +kernel
theorem dX10_lot_10 : decode cX10_lot 10 = .ok (.iconst (-1), 1) := by decide +kernel
theorem dX10_lot_11 : decode cX10_lot 11 = .ok (.goto 10, 3) := by decide +kernel
theorem dX10_lot_14 : decode cX10_lot 14 = .ok (.aload_n 0, 1) := by decide +kernel
theorem dX10_lot_15 : decode cX10_lot 15 = .ok (.getfield 61, 3) := by decide +kernel
theorem dX10_lot_18 : decode cX10_lot 18 = .ok (.invokevirtual 217, 3) := by decide +kernel
theorem dX10_lot_21 : decode cX10_lot 21 = .ok (.ireturn, 1) := by decide +kernel
theorem dX10_best_0 : decode cX10_best 0 = .ok (.aload_n 0, 1) := by decide +kernel
theorem dX10_best_1 : decode cX10_best 1 = .ok (.getfield 61, 3) := by decide +kernel
theorem dX10_best_4 : decode cX10_best 4 = .ok (.getfield 198, 3) := by decide +kernel
theorem dX10_best_7 : decode cX10_best 7 = .ok (.ifCond .ne 7, 3) := by decide +kernel
theorem dX10_best_10 : decode cX10_best 10 = .ok (.iconst (-1), 1) := by decide +kernel
theorem dX10_best_11 : decode cX10_best 11 = .ok (.goto 10, 3) := by decide +kernel
theorem dX10_best_14 : decode cX10_best 14 = .ok (.aload_n 0, 1) := by decide +kernel
theorem dX10_best_15 : decode cX10_best 15 = .ok (.getfield 61, 3) := by decide +kernel
theorem dX10_best_18 : decode cX10_best 18 = .ok (.invokevirtual 220, 3) := by decide +kernel
theorem dX10_best_21 : decode cX10_best 21 = .ok (.ireturn, 1) := by decide +kernel
theorem dX10_book_0 : decode cX10_book 0 = .ok (.iload_n 1, 1) := by decide +kernel
theorem dX10_book_1 : decode cX10_book 1 = .ok (.iconst (-1), 1) := by decide +kernel
theorem dX10_book_2 : decode cX10_book 2 = .ok (.if_icmp .ne 16, 3) := by decide +kernel
theorem dX10_book_5 : decode cX10_book 5 = .ok (.aload_n 0, 1) := by decide +kernel
theorem dX10_book_6 : decode cX10_book 6 = .ok (.getfield 44, 3) := by decide +kernel
theorem dX10_book_9 : decode cX10_book 9 = .ok (.getfield 223, 3) := by decide +kernel
theorem dX10_book_12 : decode cX10_book 12 = .ok (.getfield 227, 3) := by decide +kernel
theorem dX10_book_15 : decode cX10_book 15 = .ok (.goto 15, 3) := by decide +kernel
theorem dX10_book_18 : decode cX10_book 18 = .ok (.aload_n 0, 1) := by decide +kernel
theorem dX10_book_19 : decode cX10_book 19 = .ok (.getfield 44, 3) := by decide +kernel
theorem dX10_book_22 : decode cX10_book 22 = .ok (.getfield 223, 3) := by decide +kernel
theorem dX10_book_25 : decode cX10_book 25 = .ok (.iload_n 1, 1) := by decide +kernel
theorem dX10_book_26 : decode cX10_book 26 = .ok (.iload_n 2, 1) := by decide +kernel
theorem dX10_book_27 : decode cX10_book 27 = .ok (.invokevirtual 230, 3) := by decide +kernel
theorem dX10_book_30 : decode cX10_book 30 = .ok (.ireturn, 1) := by decide +kernel
theorem dX10_judge_0 : decode cX10_judge 0 = .ok (.aload_n 0, 1) := by decide +kernel
theorem dX10_judge_1 : decode cX10_judge 1 = .ok (.getfield 22, 3) := by decide +kernel
theorem dX10_judge_4 : decode cX10_judge 4 = .ok (.iload_n 1, 1) := by decide +kernel
theorem dX10_judge_5 : decode cX10_judge 5 = .ok (.invokevirtual 142, 3) := by decide +kernel
theorem dX10_judge_8 : decode cX10_judge 8 = .ok (.ifCond .eq 12, 3) := by decide +kernel
theorem dX10_judge_11 : decode cX10_judge 11 = .ok (.iload_n 2, 1) := by decide +kernel
theorem dX10_judge_12 : decode cX10_judge 12 = .ok (.ifCond .lt 8, 3) := by decide +kernel
theorem dX10_judge_15 : decode cX10_judge 15 = .ok (.iload_n 2, 1) := by decide +kernel
theorem dX10_judge_16 : decode cX10_judge 16 = .ok (.iconst 2, 1) := by decide +kernel
theorem dX10_judge_17 : decode cX10_judge 17 = .ok (.if_icmp .le 5, 3) := by decide +kernel
theorem dX10_judge_20 : decode cX10_judge 20 = .ok (.iconst (-1), 1) := by decide +kernel
theorem dX10_judge_21 : decode cX10_judge 21 = .ok (.ireturn, 1) := by decide +kernel
theorem dX10_judge_22 : decode cX10_judge 22 = .ok (.aload_n 0, 1) := by decide +kernel
theorem dX10_judge_23 : decode cX10_judge 23 = .ok (.getfield 44, 3) := by decide +kernel
theorem dX10_judge_26 : decode cX10_judge 26 = .ok (.getfield 223, 3) := by decide +kernel
theorem dX10_judge_29 : decode cX10_judge 29 = .ok (.iload_n 1, 1) := by decide +kernel
theorem dX10_judge_30 : decode cX10_judge 30 = .ok (.iload_n 2, 1) := by decide +kernel
theorem dX10_judge_31 : decode cX10_judge 31 = .ok (.invokevirtual 232, 3) := by decide +kernel
theorem dX10_judge_34 : decode cX10_judge 34 = .ok (.ireturn, 1) := by decide +kernel
theorem dX10_value_0 : decode cX10_value 0 = .ok (.iload_n 3, 1) := by decide +kernel
theorem dX10_value_1 : decode cX10_value 1 = .ok (.ifCond .lt 14, 3) := by decide +kernel
theorem dX10_value_4 : decode cX10_value 4 = .ok (.iload 5, 2) := by decide +kernel
theorem dX10_value_6 : decode cX10_value 6 = .ok (.ifCond .lt 9, 3) := by decide +kernel
theorem dX10_value_9 : decode cX10_value 9 = .ok (.iload 5, 2) := by decide +kernel
theorem dX10_value_11 : decode cX10_value 11 = .ok (.iconst 1, 1) := by decide +kernel
theorem dX10_value_12 : decode cX10_value 12 = .ok (.if_icmp .le 6, 3) := by decide +kernel
theorem dX10_value_15 : decode cX10_value 15 = .ok (.ldc 89, 2) := by decide +kernel
theorem dX10_value_17 : decode cX10_value 17 = .ok (.ireturn, 1) := by decide +kernel
theorem dX10_value_18 : decode cX10_value 18 = .ok (.iload_n 3, 1) := by decide +kernel
theorem dX10_value_19 : decode cX10_value 19 = .ok (.sipush 10000, 3) := by decide +kernel
theorem dX10_value_22 : decode cX10_value 22 = .ok (.idiv, 1) := by decide +kernel
theorem dX10_value_23 : decode cX10_value 23 = .ok (.istore 6, 2) := by decide +kernel
theorem dX10_value_25 : decode cX10_value 25 = .ok (.iload_n 3, 1) := by decide +kernel
theorem dX10_value_26 : decode cX10_value 26 = .ok (.bipush 100, 2) := by decide +kernel
theorem dX10_value_28 : decode cX10_value 28 = .ok (.idiv, 1) := by decide +kernel
theorem dX10_value_29 : decode cX10_value 29 = .ok (.bipush 100, 2) := by decide +kernel
theorem dX10_value_31 : decode cX10_value 31 = .ok (.irem, 1) := by decide +kernel
theorem dX10_value_32 : decode cX10_value 32 = .ok (.istore 7, 2) := by decide +kernel
theorem dX10_value_34 : decode cX10_value 34 = .ok (.iload_n 3, 1) := by decide +kernel
theorem dX10_value_35 : decode cX10_value 35 = .ok (.bipush 100, 2) := by decide +kernel
theorem dX10_value_37 : decode cX10_value 37 = .ok (.irem, 1) := by decide +kernel
theorem dX10_value_38 : decode cX10_value 38 = .ok (.istore 8, 2) := by decide +kernel
theorem dX10_value_40 : decode cX10_value 40 = .ok (.iload 6, 2) := by decide +kernel
theorem dX10_value_42 : decode cX10_value 42 = .ok (.iload 7, 2) := by decide +kernel
theorem dX10_value_44 : decode cX10_value 44 = .ok (.iload 8, 2) := by decide +kernel
theorem dX10_value_46 : decode cX10_value 46 = .ok (.invokestatic 235, 3) := by decide +kernel
theorem dX10_value_49 : decode cX10_value 49 = .ok (.ifCond .eq 21, 3) := by decide +kernel
theorem dX10_value_52 : decode cX10_value 52 = .ok (.aload_n 0, 1) := by decide +kernel
theorem dX10_value_53 : decode cX10_value 53 = .ok (.getfield 68, 3) := by decide +kernel
theorem dX10_value_56 : decode cX10_value 56 = .ok (.aload_n 0, 1) := by decide +kernel
theorem dX10_value_57 : decode cX10_value 57 = .ok (.getfield 22, 3) := by decide +kernel
theorem dX10_value_60 : decode cX10_value 60 = .ok (.iload_n 1, 1) := by decide +kernel
theorem dX10_value_61 : decode cX10_value 61 = .ok (.iload_n 2, 1) := by decide +kernel
theorem dX10_value_62 : decode cX10_value 62 = .ok (.iload 4, 2) := by decide +kernel
theorem dX10_value_64 : decode cX10_value 64 = .ok (.invokevirtual 239, 3) := by decide +kernel
theorem dX10_value_67 : decode cX10_value 67 = .ok (.ifCond .ne 6, 3) := by decide +kernel
theorem dX10_value_70 : decode cX10_value 70 = .ok (.ldc 89, 2) := by decide +kernel
theorem dX10_value_72 : decode cX10_value 72 = .ok (.ireturn, 1) := by decide +kernel
theorem dX10_value_73 : decode cX10_value 73 = .ok (.aload_n 0, 1) := by decide +kernel
theorem dX10_value_74 : decode cX10_value 74 = .ok (.getfield 68, 3) := by decide +kernel
theorem dX10_value_77 : decode cX10_value 77 = .ok (.iload 6, 2) := by decide +kernel
theorem dX10_value_79 : decode cX10_value 79 = .ok (.invokevirtual 243, 3) := by decide +kernel
theorem dX10_value_82 : decode cX10_value 82 = .ok (.iload 5, 2) := by decide +kernel
theorem dX10_value_84 : decode cX10_value 84 = .ok (.ifCond .ne 17, 3) := by decide +kernel
theorem dX10_value_87 : decode cX10_value 87 = .ok (.aload_n 0, 1) := by decide +kernel
theorem dX10_value_88 : decode cX10_value 88 = .ok (.getfield 68, 3) := by decide +kernel
theorem dX10_value_91 : decode cX10_value 91 = .ok (.iload 7, 2) := by decide +kernel
theorem dX10_value_93 : decode cX10_value 93 = .ok (.iload 8, 2) := by decide +kernel
theorem dX10_value_95 : decode cX10_value 95 = .ok (.invokevirtual 246, 3) := by decide +kernel
theorem dX10_value_98 : decode cX10_value 98 = .ok (.goto 14, 3) := by decide +kernel
theorem dX10_value_101 : decode cX10_value 101 = .ok (.aload_n 0, 1) := by decide +kernel
theorem dX10_value_102 : decode cX10_value 102 = .ok (.getfield 68, 3) := by decide +kernel
theorem dX10_value_105 : decode cX10_value 105 = .ok (.iload 7, 2) := by decide +kernel
theorem dX10_value_107 : decode cX10_value 107 = .ok (.iload 8, 2) := by decide +kernel
theorem dX10_value_109 : decode cX10_value 109 = .ok (.invokevirtual 249, 3) := by decide +kernel
theorem dX10_value_112 : decode cX10_value 112 = .ok (.ireturn, 1) := by decide +kernel
theorem dX10_entering_0 : decode cX10_entering 0 = .ok (.iload_n 3, 1) := by decide +kernel
theorem dX10_entering_1 : decode cX10_entering 1 = .ok (.ifCond .ge 6, 3) := by decide +kernel
theorem dX10_entering_4 : decode cX10_entering 4 = .ok (.ldc 89, 2) := by decide +kernel
theorem dX10_entering_6 : decode cX10_entering 6 = .ok (.ireturn, 1) := by decide +kernel
theorem dX10_entering_7 : decode cX10_entering 7 = .ok (.iload_n 3, 1) := by decide +kernel
theorem dX10_entering_8 : decode cX10_entering 8 = .ok (.bipush 100, 2) := by decide +kernel
theorem dX10_entering_10 : decode cX10_entering 10 = .ok (.idiv, 1) := by decide +kernel
theorem dX10_entering_11 : decode cX10_entering 11 = .ok (.istore 5, 2) := by decide +kernel
theorem dX10_entering_13 : decode cX10_entering 13 = .ok (.iload_n 3, 1) := by decide +kernel
theorem dX10_entering_14 : decode cX10_entering 14 = .ok (.bipush 100, 2) := by decide +kernel
theorem dX10_entering_16 : decode cX10_entering 16 = .ok (.irem, 1) := by decide +kernel
theorem dX10_entering_17 : decode cX10_entering 17 = .ok (.istore 6, 2) := by decide +kernel
theorem dX10_entering_19 : decode cX10_entering 19 = .ok (.iload 5, 2) := by decide +kernel
theorem dX10_entering_21 : decode cX10_entering 21 = .ok (.iload 6, 2) := by decide +kernel
theorem dX10_entering_23 : decode cX10_entering 23 = .ok (.iconst 0, 1) := by decide +kernel
theorem dX10_entering_24 : decode cX10_entering 24 = .ok (.invokestatic 235, 3) := by decide +kernel
theorem dX10_entering_27 : decode cX10_entering 27 = .ok (.ifCond .eq 21, 3) := by decide +kernel
theorem dX10_entering_30 : decode cX10_entering 30 = .ok (.aload_n 0, 1) := by decide +kernel
theorem dX10_entering_31 : decode cX10_entering 31 = .ok (.getfield 68, 3) := by decide +kernel
theorem dX10_entering_34 : decode cX10_entering 34 = .ok (.aload_n 0, 1) := by decide +kernel
theorem dX10_entering_35 : decode cX10_entering 35 = .ok (.getfield 22, 3) := by decide +kernel
theorem dX10_entering_38 : decode cX10_entering 38 = .ok (.iload_n 1, 1) := by decide +kernel
theorem dX10_entering_39 : decode cX10_entering 39 = .ok (.iload_n 2, 1) := by decide +kernel
theorem dX10_entering_40 : decode cX10_entering 40 = .ok (.iload 4, 2) := by decide +kernel
theorem dX10_entering_42 : decode cX10_entering 42 = .ok (.invokevirtual 239, 3) := by decide +kernel
theorem dX10_entering_45 : decode cX10_entering 45 = .ok (.ifCond .ne 6, 3) := by decide +kernel
theorem dX10_entering_48 : decode cX10_entering 48 = .ok (.ldc 89, 2) := by decide +kernel
theorem dX10_entering_50 : decode cX10_entering 50 = .ok (.ireturn, 1) := by decide +kernel
theorem dX10_entering_51 : decode cX10_entering 51 = .ok (.aload_n 0, 1) := by decide +kernel
theorem dX10_entering_52 : decode cX10_entering 52 = .ok (.getfield 68, 3) := by decide +kernel
theorem dX10_entering_55 : decode cX10_entering 55 = .ok (.iload 5, 2) := by decide +kernel
theorem dX10_entering_57 : decode cX10_entering 57 = .ok (.invokevirtual 243, 3) := by decide +kernel
theorem dX10_entering_60 : decode cX10_entering 60 = .ok (.aload_n 0, 1) := by decide +kernel
theorem dX10_entering_61 : decode cX10_entering 61 = .ok (.getfield 68, 3) := by decide +kernel
theorem dX10_entering_64 : decode cX10_entering 64 = .ok (.iload 6, 2) := by decide +kernel
theorem dX10_entering_66 : decode cX10_entering 66 = .ok (.aload_n 0, 1) := by decide +kernel
theorem dX10_entering_67 : decode cX10_entering 67 = .ok (.getfield 22, 3) := by decide +kernel
theorem dX10_entering_70 : decode cX10_entering 70 = .ok (.invokevirtual 252, 3) := by decide +kernel
theorem dX10_entering_73 : decode cX10_entering 73 = .ok (.invokevirtual 255, 3) := by decide +kernel
theorem dX10_entering_76 : decode cX10_entering 76 = .ok (.ireturn, 1) := by decide +kernel
theorem dX10_when_0 : decode cX10_when 0 = .ok (.iload_n 3, 1) := by decide +kernel
theorem dX10_when_1 : decode cX10_when 1 = .ok (.ifCond .lt 22, 3) := by decide +kernel
theorem dX10_when_4 : decode cX10_when 4 = .ok (.iload_n 3, 1) := by decide +kernel
theorem dX10_when_5 : decode cX10_when 5 = .ok (.bipush 120, 2) := by decide +kernel
theorem dX10_when_7 : decode cX10_when 7 = .ok (.if_icmp .gt 16, 3) := by decide +kernel
theorem dX10_when_10 : decode cX10_when 10 = .ok (.iload 4, 2) := by decide +kernel
theorem dX10_when_12 : decode cX10_when 12 = .ok (.ifCond .lt 11, 3) := by decide +kernel
theorem dX10_when_15 : decode cX10_when 15 = .ok (.iload 4, 2) := by decide +kernel
theorem dX10_when_17 : decode cX10_when 17 = .ok (.ldc_w 258, 3) := by decide +kernel
theorem dX10_when_20 : decode cX10_when 20 = .ok (.if_icmp .lt 5, 3) := by decide +kernel
theorem dX10_when_23 : decode cX10_when 23 = .ok (.iconst (-1), 1) := by decide +kernel
theorem dX10_when_24 : decode cX10_when 24 = .ok (.ireturn, 1) := by decide +kernel
theorem dX10_when_25 : decode cX10_when 25 = .ok (.aload_n 0, 1) := by decide +kernel
theorem dX10_when_26 : decode cX10_when 26 = .ok (.getfield 68, 3) := by decide +kernel
theorem dX10_when_29 : decode cX10_when 29 = .ok (.aload_n 0, 1) := by decide +kernel
theorem dX10_when_30 : decode cX10_when 30 = .ok (.getfield 22, 3) := by decide +kernel
theorem dX10_when_33 : decode cX10_when 33 = .ok (.iload_n 1, 1) := by decide +kernel
theorem dX10_when_34 : decode cX10_when 34 = .ok (.iload_n 2, 1) := by decide +kernel
theorem dX10_when_35 : decode cX10_when 35 = .ok (.iload 5, 2) := by decide +kernel
theorem dX10_when_37 : decode cX10_when 37 = .ok (.invokevirtual 239, 3) := by decide +kernel
theorem dX10_when_40 : decode cX10_when 40 = .ok (.ifCond .ne 5, 3) := by decide +kernel
theorem dX10_when_43 : decode cX10_when 43 = .ok (.iconst (-1), 1) := by decide +kernel
theorem dX10_when_44 : decode cX10_when 44 = .ok (.ireturn, 1) := by decide +kernel
theorem dX10_when_45 : decode cX10_when 45 = .ok (.aload_n 0, 1) := by decide +kernel
theorem dX10_when_46 : decode cX10_when 46 = .ok (.getfield 68, 3) := by decide +kernel
theorem dX10_when_49 : decode cX10_when 49 = .ok (.iload_n 3, 1) := by decide +kernel
theorem dX10_when_50 : decode cX10_when 50 = .ok (.iload 4, 2) := by decide +kernel
theorem dX10_when_52 : decode cX10_when 52 = .ok (.aload_n 0, 1) := by decide +kernel
theorem dX10_when_53 : decode cX10_when 53 = .ok (.getfield 22, 3) := by decide +kernel
theorem dX10_when_56 : decode cX10_when 56 = .ok (.invokevirtual 252, 3) := by decide +kernel
theorem dX10_when_59 : decode cX10_when 59 = .ok (.invokevirtual 259, 3) := by decide +kernel
theorem dX10_when_62 : decode cX10_when 62 = .ok (.ireturn, 1) := by decide +kernel
theorem dX10_least_0 : decode cX10_least 0 = .ok (.iload_n 3, 1) := by decide +kernel
theorem dX10_least_1 : decode cX10_least 1 = .ok (.iconst 1, 1) := by decide +kernel
theorem dX10_least_2 : decode cX10_least 2 = .ok (.if_icmp .lt 27, 3) := by decide +kernel
theorem dX10_least_5 : decode cX10_least 5 = .ok (.iload_n 3, 1) := by decide +kernel
theorem dX10_least_6 : decode cX10_least 6 = .ok (.bipush 60, 2) := by decide +kernel
theorem dX10_least_8 : decode cX10_least 8 = .ok (.if_icmp .gt 21, 3) := by decide +kernel
theorem dX10_least_11 : decode cX10_least 11 = .ok (.aload_n 0, 1) := by decide +kernel
theorem dX10_least_12 : decode cX10_least 12 = .ok (.getfield 68, 3) := by decide +kernel
theorem dX10_least_15 : decode cX10_least 15 = .ok (.aload_n 0, 1) := by decide +kernel
theorem dX10_least_16 : decode cX10_least 16 = .ok (.getfield 22, 3) := by decide +kernel
theorem dX10_least_19 : decode cX10_least 19 = .ok (.iload_n 1, 1) := by decide +kernel
theorem dX10_least_20 : decode cX10_least 20 = .ok (.iload_n 2, 1) := by decide +kernel
theorem dX10_least_21 : decode cX10_least 21 = .ok (.iload 4, 2) := by decide +kernel
theorem dX10_least_23 : decode cX10_least 23 = .ok (.invokevirtual 239, 3) := by decide +kernel
theorem dX10_least_26 : decode cX10_least 26 = .ok (.ifCond .ne 5, 3) := by decide +kernel
theorem dX10_least_29 : decode cX10_least 29 = .ok (.iconst (-1), 1) := by decide +kernel
theorem dX10_least_30 : decode cX10_least 30 = .ok (.ireturn, 1) := by decide +kernel
theorem dX10_least_31 : decode cX10_least 31 = .ok (.aload_n 0, 1) := by decide +kernel
theorem dX10_least_32 : decode cX10_least 32 = .ok (.getfield 68, 3) := by decide +kernel
theorem dX10_least_35 : decode cX10_least 35 = .ok (.iload_n 3, 1) := by decide +kernel
theorem dX10_least_36 : decode cX10_least 36 = .ok (.invokevirtual 263, 3) := by decide +kernel
theorem dX10_least_39 : decode cX10_least 39 = .ok (.ireturn, 1) := by decide +kernel
theorem dX10_send_0 : decode cX10_send 0 = .ok (.iload_n 3, 1) := by decide +kernel
theorem dX10_send_1 : decode cX10_send 1 = .ok (.ifCond .lt 15, 3) := by decide +kernel
theorem dX10_send_4 : decode cX10_send 4 = .ok (.iload 5, 2) := by decide +kernel
theorem dX10_send_6 : decode cX10_send 6 = .ok (.ifCond .lt 10, 3) := by decide +kernel
theorem dX10_send_9 : decode cX10_send 9 = .ok (.iload 5, 2) := by decide +kernel
theorem dX10_send_11 : decode cX10_send 11 = .ok (.bipush 99, 2) := by decide +kernel
theorem dX10_send_13 : decode cX10_send 13 = .ok (.if_icmp .le 6, 3) := by decide +kernel
theorem dX10_send_16 : decode cX10_send 16 = .ok (.ldc 89, 2) := by decide +kernel
theorem dX10_send_18 : decode cX10_send 18 = .ok (.ireturn, 1) := by decide +kernel
theorem dX10_send_19 : decode cX10_send 19 = .ok (.iload_n 3, 1) := by decide +kernel
theorem dX10_send_20 : decode cX10_send 20 = .ok (.sipush 10000, 3) := by decide +kernel
theorem dX10_send_23 : decode cX10_send 23 = .ok (.idiv, 1) := by decide +kernel
theorem dX10_send_24 : decode cX10_send 24 = .ok (.istore 6, 2) := by decide +kernel
theorem dX10_send_26 : decode cX10_send 26 = .ok (.iload_n 3, 1) := by decide +kernel
theorem dX10_send_27 : decode cX10_send 27 = .ok (.bipush 100, 2) := by decide +kernel
theorem dX10_send_29 : decode cX10_send 29 = .ok (.idiv, 1) := by decide +kernel
theorem dX10_send_30 : decode cX10_send 30 = .ok (.bipush 100, 2) := by decide +kernel
theorem dX10_send_32 : decode cX10_send 32 = .ok (.irem, 1) := by decide +kernel
theorem dX10_send_33 : decode cX10_send 33 = .ok (.istore 7, 2) := by decide +kernel
theorem dX10_send_35 : decode cX10_send 35 = .ok (.iload_n 3, 1) := by decide +kernel
theorem dX10_send_36 : decode cX10_send 36 = .ok (.bipush 100, 2) := by decide +kernel
theorem dX10_send_38 : decode cX10_send 38 = .ok (.irem, 1) := by decide +kernel
theorem dX10_send_39 : decode cX10_send 39 = .ok (.istore 8, 2) := by decide +kernel
theorem dX10_send_41 : decode cX10_send 41 = .ok (.iload 7, 2) := by decide +kernel
theorem dX10_send_43 : decode cX10_send 43 = .ok (.iload 8, 2) := by decide +kernel
theorem dX10_send_45 : decode cX10_send 45 = .ok (.iadd, 1) := by decide +kernel
theorem dX10_send_46 : decode cX10_send 46 = .ok (.iconst 1, 1) := by decide +kernel
theorem dX10_send_47 : decode cX10_send 47 = .ok (.iadd, 1) := by decide +kernel
theorem dX10_send_48 : decode cX10_send 48 = .ok (.istore 9, 2) := by decide +kernel
theorem dX10_send_50 : decode cX10_send 50 = .ok (.iload 6, 2) := by decide +kernel
theorem dX10_send_52 : decode cX10_send 52 = .ok (.iload 9, 2) := by decide +kernel
theorem dX10_send_54 : decode cX10_send 54 = .ok (.iconst 0, 1) := by decide +kernel
theorem dX10_send_55 : decode cX10_send 55 = .ok (.invokestatic 235, 3) := by decide +kernel
theorem dX10_send_58 : decode cX10_send 58 = .ok (.ifCond .eq 21, 3) := by decide +kernel
theorem dX10_send_61 : decode cX10_send 61 = .ok (.aload_n 0, 1) := by decide +kernel
theorem dX10_send_62 : decode cX10_send 62 = .ok (.getfield 68, 3) := by decide +kernel
theorem dX10_send_65 : decode cX10_send 65 = .ok (.aload_n 0, 1) := by decide +kernel
theorem dX10_send_66 : decode cX10_send 66 = .ok (.getfield 22, 3) := by decide +kernel
theorem dX10_send_69 : decode cX10_send 69 = .ok (.iload_n 1, 1) := by decide +kernel
theorem dX10_send_70 : decode cX10_send 70 = .ok (.iload_n 2, 1) := by decide +kernel
theorem dX10_send_71 : decode cX10_send 71 = .ok (.iload 4, 2) := by decide +kernel
theorem dX10_send_73 : decode cX10_send 73 = .ok (.invokevirtual 239, 3) := by decide +kernel
theorem dX10_send_76 : decode cX10_send 76 = .ok (.ifCond .ne 6, 3) := by decide +kernel
theorem dX10_send_79 : decode cX10_send 79 = .ok (.ldc 89, 2) := by decide +kernel
theorem dX10_send_81 : decode cX10_send 81 = .ok (.ireturn, 1) := by decide +kernel
theorem dX10_send_82 : decode cX10_send 82 = .ok (.aload_n 0, 1) := by decide +kernel
theorem dX10_send_83 : decode cX10_send 83 = .ok (.getfield 68, 3) := by decide +kernel
theorem dX10_send_86 : decode cX10_send 86 = .ok (.iload 6, 2) := by decide +kernel
theorem dX10_send_88 : decode cX10_send 88 = .ok (.invokevirtual 243, 3) := by decide +kernel
theorem dX10_send_91 : decode cX10_send 91 = .ok (.aload_n 0, 1) := by decide +kernel
theorem dX10_send_92 : decode cX10_send 92 = .ok (.getfield 68, 3) := by decide +kernel
theorem dX10_send_95 : decode cX10_send 95 = .ok (.iload 9, 2) := by decide +kernel
theorem dX10_send_97 : decode cX10_send 97 = .ok (.aload_n 0, 1) := by decide +kernel
theorem dX10_send_98 : decode cX10_send 98 = .ok (.getfield 22, 3) := by decide +kernel
theorem dX10_send_101 : decode cX10_send 101 = .ok (.invokevirtual 252, 3) := by decide +kernel
theorem dX10_send_104 : decode cX10_send 104 = .ok (.iload 5, 2) := by decide +kernel
theorem dX10_send_106 : decode cX10_send 106 = .ok (.iadd, 1) := by decide +kernel
theorem dX10_send_107 : decode cX10_send 107 = .ok (.invokevirtual 255, 3) := by decide +kernel
theorem dX10_send_110 : decode cX10_send 110 = .ok (.aload_n 0, 1) := by decide +kernel
theorem dX10_send_111 : decode cX10_send 111 = .ok (.getfield 68, 3) := by decide +kernel
theorem dX10_send_114 : decode cX10_send 114 = .ok (.iload 7, 2) := by decide +kernel
theorem dX10_send_116 : decode cX10_send 116 = .ok (.iload 8, 2) := by decide +kernel
theorem dX10_send_118 : decode cX10_send 118 = .ok (.invokevirtual 246, 3) := by decide +kernel
theorem dX10_send_121 : decode cX10_send 121 = .ok (.isub, 1) := by decide +kernel
theorem dX10_send_122 : decode cX10_send 122 = .ok (.ireturn, 1) := by decide +kernel
theorem dX10_out_0 : decode cX10_out 0 = .ok (.iload_n 1, 1) := by decide +kernel
theorem dX10_out_1 : decode cX10_out 1 = .ok (.ifCond .lt 28, 3) := by decide +kernel
theorem dX10_out_4 : decode cX10_out 4 = .ok (.iload_n 1, 1) := by decide +kernel
theorem dX10_out_5 : decode cX10_out 5 = .ok (.iconst 2, 1) := by decide +kernel
theorem dX10_out_6 : decode cX10_out 6 = .ok (.if_icmp .gt 23, 3) := by decide +kernel
theorem dX10_out_9 : decode cX10_out 9 = .ok (.iload_n 2, 1) := by decide +kernel
theorem dX10_out_10 : decode cX10_out 10 = .ok (.ifCond .lt 19, 3) := by decide +kernel
theorem dX10_out_13 : decode cX10_out 13 = .ok (.iload_n 2, 1) := by decide +kernel
theorem dX10_out_14 : decode cX10_out 14 = .ok (.bipush 12, 2) := by decide +kernel
theorem dX10_out_16 : decode cX10_out 16 = .ok (.if_icmp .gt 13, 3) := by decide +kernel
theorem dX10_out_19 : decode cX10_out 19 = .ok (.iload_n 3, 1) := by decide +kernel
theorem dX10_out_20 : decode cX10_out 20 = .ok (.ifCond .lt 9, 3) := by decide +kernel
theorem dX10_out_23 : decode cX10_out 23 = .ok (.iload_n 3, 1) := by decide +kernel
theorem dX10_out_24 : decode cX10_out 24 = .ok (.bipush 12, 2) := by decide +kernel
theorem dX10_out_26 : decode cX10_out 26 = .ok (.if_icmp .le 5, 3) := by decide +kernel
theorem dX10_out_29 : decode cX10_out 29 = .ok (.iconst (-1), 1) := by decide +kernel
theorem dX10_out_30 : decode cX10_out 30 = .ok (.ireturn, 1) := by decide +kernel
theorem dX10_out_31 : decode cX10_out 31 = .ok (.iconst 1, 1) := by decide +kernel
theorem dX10_out_32 : decode cX10_out 32 = .ok (.iload_n 2, 1) := by decide +kernel
theorem dX10_out_33 : decode cX10_out 33 = .ok (.ishl, 1) := by decide +kernel
theorem dX10_out_34 : decode cX10_out 34 = .ok (.iconst 1, 1) := by decide +kernel
theorem dX10_out_35 : decode cX10_out 35 = .ok (.isub, 1) := by decide +kernel
theorem dX10_out_36 : decode cX10_out 36 = .ok (.istore 4, 2) := by decide +kernel
theorem dX10_out_38 : decode cX10_out 38 = .ok (.iload 4, 2) := by decide +kernel
theorem dX10_out_40 : decode cX10_out 40 = .ok (.istore 5, 2) := by decide +kernel
theorem dX10_out_42 : decode cX10_out 42 = .ok (.iconst 0, 1) := by decide +kernel
theorem dX10_out_43 : decode cX10_out 43 = .ok (.istore 6, 2) := by decide +kernel
theorem dX10_out_45 : decode cX10_out 45 = .ok (.iload 6, 2) := by decide +kernel
theorem dX10_out_47 : decode cX10_out 47 = .ok (.iload_n 3, 1) := by decide +kernel
theorem dX10_out_48 : decode cX10_out 48 = .ok (.if_icmp .ge 35, 3) := by decide +kernel
theorem dX10_out_51 : decode cX10_out 51 = .ok (.iload 6, 2) := by decide +kernel
theorem dX10_out_53 : decode cX10_out 53 = .ok (.iload_n 2, 1) := by decide +kernel
theorem dX10_out_54 : decode cX10_out 54 = .ok (.if_icmp .ge 29, 3) := by decide +kernel
theorem dX10_out_57 : decode cX10_out 57 = .ok (.iload 5, 2) := by decide +kernel
theorem dX10_out_59 : decode cX10_out 59 = .ok (.iload 5, 2) := by decide +kernel
theorem dX10_out_61 : decode cX10_out 61 = .ok (.iload_n 1, 1) := by decide +kernel
theorem dX10_out_62 : decode cX10_out 62 = .ok (.iload_n 2, 1) := by decide +kernel
theorem dX10_out_63 : decode cX10_out 63 = .ok (.iload 6, 2) := by decide +kernel
theorem dX10_out_65 : decode cX10_out 65 = .ok (.isub, 1) := by decide +kernel
theorem dX10_out_66 : decode cX10_out 66 = .ok (.invokestatic 266, 3) := by decide +kernel
theorem dX10_out_69 : decode cX10_out 69 = .ok (.invokestatic 269, 3) := by decide +kernel
theorem dX10_out_72 : decode cX10_out 72 = .ok (.iconst (-1), 1) := by decide +kernel
theorem dX10_out_73 : decode cX10_out 73 = .ok (.ixor, 1) := by decide +kernel
theorem dX10_out_74 : decode cX10_out 74 = .ok (.iand, 1) := by decide +kernel
theorem dX10_out_75 : decode cX10_out 75 = .ok (.istore 5, 2) := by decide +kernel
theorem dX10_out_77 : decode cX10_out 77 = .ok (.iinc 6 1, 3) := by decide +kernel
theorem dX10_out_80 : decode cX10_out 80 = .ok (.goto (-35), 3) := by decide +kernel
theorem dX10_out_83 : decode cX10_out 83 = .ok (.iload 4, 2) := by decide +kernel
theorem dX10_out_85 : decode cX10_out 85 = .ok (.iload 5, 2) := by decide +kernel
theorem dX10_out_87 : decode cX10_out 87 = .ok (.iconst (-1), 1) := by decide +kernel
theorem dX10_out_88 : decode cX10_out 88 = .ok (.ixor, 1) := by decide +kernel
theorem dX10_out_89 : decode cX10_out 89 = .ok (.iand, 1) := by decide +kernel
theorem dX10_out_90 : decode cX10_out 90 = .ok (.ireturn, 1) := by decide +kernel
theorem dX10_image_0 : decode cX10_image 0 = .ok (.aload_n 0, 1) := by decide +kernel
theorem dX10_image_1 : decode cX10_image 1 = .ok (.getfield 22, 3) := by decide +kernel
theorem dX10_image_4 : decode cX10_image 4 = .ok (.invokevirtual 189, 3) := by decide +kernel
theorem dX10_image_7 : decode cX10_image 7 = .ok (.ifCond .eq 12, 3) := by decide +kernel
theorem dX10_image_10 : decode cX10_image 10 = .ok (.iload_n 1, 1) := by decide +kernel
theorem dX10_image_11 : decode cX10_image 11 = .ok (.ifCond .lt 8, 3) := by decide +kernel
theorem dX10_image_14 : decode cX10_image 14 = .ok (.iload_n 1, 1) := by decide +kernel
theorem dX10_image_15 : decode cX10_image 15 = .ok (.iconst 3, 1) := by decide +kernel
theorem dX10_image_16 : decode cX10_image 16 = .ok (.if_icmp .lt 5, 3) := by decide +kernel
theorem dX10_image_19 : decode cX10_image 19 = .ok (.iconst 0, 1) := by decide +kernel
theorem dX10_image_20 : decode cX10_image 20 = .ok (.ireturn, 1) := by decide +kernel
theorem dX10_image_21 : decode cX10_image 21 = .ok (.aload_n 0, 1) := by decide +kernel
theorem dX10_image_22 : decode cX10_image 22 = .ok (.getfield 48, 3) := by decide +kernel
theorem dX10_image_25 : decode cX10_image 25 = .ok (.iload_n 1, 1) := by decide +kernel
theorem dX10_image_26 : decode cX10_image 26 = .ok (.aaload, 1) := by decide +kernel
theorem dX10_image_27 : decode cX10_image 27 = .ok (.aload_n 0, 1) := by decide +kernel
theorem dX10_image_28 : decode cX10_image 28 = .ok (.getfield 44, 3) := by decide +kernel
theorem dX10_image_31 : decode cX10_image 31 = .ok (.invokevirtual 272, 3) := by decide +kernel
theorem dX10_image_34 : decode cX10_image 34 = .ok (.aload_n 0, 1) := by decide +kernel
theorem dX10_image_35 : decode cX10_image 35 = .ok (.getfield 52, 3) := by decide +kernel
theorem dX10_image_38 : decode cX10_image 38 = .ok (.iload_n 1, 1) := by decide +kernel
theorem dX10_image_39 : decode cX10_image 39 = .ok (.iconst 1, 1) := by decide +kernel
theorem dX10_image_40 : decode cX10_image 40 = .ok (.bastore, 1) := by decide +kernel
theorem dX10_image_41 : decode cX10_image 41 = .ok (.iconst 1, 1) := by decide +kernel
theorem dX10_image_42 : decode cX10_image 42 = .ok (.ireturn, 1) := by decide +kernel
theorem dX10_on_0 : decode cX10_on 0 = .ok (.iload_n 1, 1) := by decide +kernel
theorem dX10_on_1 : decode cX10_on 1 = .ok (.ifCond .lt 17, 3) := by decide +kernel
theorem dX10_on_4 : decode cX10_on 4 = .ok (.iload_n 1, 1) := by decide +kernel
theorem dX10_on_5 : decode cX10_on 5 = .ok (.iconst 3, 1) := by decide +kernel
theorem dX10_on_6 : decode cX10_on 6 = .ok (.if_icmp .ge 12, 3) := by decide +kernel
theorem dX10_on_9 : decode cX10_on 9 = .ok (.aload_n 0, 1) := by decide +kernel
theorem dX10_on_10 : decode cX10_on 10 = .ok (.getfield 52, 3) := by decide +kernel
theorem dX10_on_13 : decode cX10_on 13 = .ok (.iload_n 1, 1) := by decide +kernel
theorem dX10_on_14 : decode cX10_on 14 = .ok (.baload, 1) := by decide +kernel
theorem dX10_on_15 : decode cX10_on 15 = .ok (.ifCond .ne 5, 3) := by decide +kernel
theorem dX10_on_18 : decode cX10_on 18 = .ok (.iconst 0, 1) := by decide +kernel
theorem dX10_on_19 : decode cX10_on 19 = .ok (.ireturn, 1) := by decide +kernel
theorem dX10_on_20 : decode cX10_on 20 = .ok (.aload_n 0, 1) := by decide +kernel
theorem dX10_on_21 : decode cX10_on 21 = .ok (.getfield 44, 3) := by decide +kernel
theorem dX10_on_24 : decode cX10_on 24 = .ok (.aload_n 0, 1) := by decide +kernel
theorem dX10_on_25 : decode cX10_on 25 = .ok (.getfield 48, 3) := by decide +kernel
theorem dX10_on_28 : decode cX10_on 28 = .ok (.iload_n 1, 1) := by decide +kernel
theorem dX10_on_29 : decode cX10_on 29 = .ok (.aaload, 1) := by decide +kernel
theorem dX10_on_30 : decode cX10_on 30 = .ok (.invokevirtual 272, 3) := by decide +kernel
theorem dX10_on_33 : decode cX10_on 33 = .ok (.iconst 1, 1) := by decide +kernel
theorem dX10_on_34 : decode cX10_on 34 = .ok (.ireturn, 1) := by decide +kernel
theorem dX10_count_0 : decode cX10_count 0 = .ok (.iload_n 1, 1) := by decide +kernel
theorem dX10_count_1 : decode cX10_count 1 = .ok (.tableswitch 149 0 9 #[55, 63, 71, 79, 101, 109, 117, 125, 133, 141], 55) := by decide +kernel
theorem dX10_count_56 : decode cX10_count 56 = .ok (.aload_n 0, 1) := by decide +kernel
theorem dX10_count_57 : decode cX10_count 57 = .ok (.getfield 22, 3) := by decide +kernel
theorem dX10_count_60 : decode cX10_count 60 = .ok (.getfield 97, 3) := by decide +kernel
theorem dX10_count_63 : decode cX10_count 63 = .ok (.ireturn, 1) := by decide +kernel
theorem dX10_count_64 : decode cX10_count 64 = .ok (.aload_n 0, 1) := by decide +kernel
theorem dX10_count_65 : decode cX10_count 65 = .ok (.getfield 22, 3) := by decide +kernel
theorem dX10_count_68 : decode cX10_count 68 = .ok (.getfield 275, 3) := by decide +kernel
theorem dX10_count_71 : decode cX10_count 71 = .ok (.ireturn, 1) := by decide +kernel
theorem dX10_count_72 : decode cX10_count 72 = .ok (.aload_n 0, 1) := by decide +kernel
theorem dX10_count_73 : decode cX10_count 73 = .ok (.getfield 44, 3) := by decide +kernel
theorem dX10_count_76 : decode cX10_count 76 = .ok (.getfield 145, 3) := by decide +kernel
theorem dX10_count_79 : decode cX10_count 79 = .ok (.ireturn, 1) := by decide +kernel
theorem dX10_count_80 : decode cX10_count 80 = .ok (.aload_n 0, 1) := by decide +kernel
theorem dX10_count_81 : decode cX10_count 81 = .ok (.getfield 22, 3) := by decide +kernel
theorem dX10_count_84 : decode cX10_count 84 = .ok (.invokevirtual 189, 3) := by decide +kernel
theorem dX10_count_87 : decode cX10_count 87 = .ok (.ifCond .eq 13, 3) := by decide +kernel
theorem dX10_count_90 : decode cX10_count 90 = .ok (.aload_n 0, 1) := by decide +kernel
theorem dX10_count_91 : decode cX10_count 91 = .ok (.getfield 22, 3) := by decide +kernel
theorem dX10_count_94 : decode cX10_count 94 = .ok (.invokevirtual 148, 3) := by decide +kernel
theorem dX10_count_97 : decode cX10_count 97 = .ok (.goto 4, 3) := by decide +kernel
theorem dX10_count_100 : decode cX10_count 100 = .ok (.iconst 0, 1) := by decide +kernel
theorem dX10_count_101 : decode cX10_count 101 = .ok (.ireturn, 1) := by decide +kernel
theorem dX10_count_102 : decode cX10_count 102 = .ok (.aload_n 0, 1) := by decide +kernel
theorem dX10_count_103 : decode cX10_count 103 = .ok (.getfield 22, 3) := by decide +kernel
theorem dX10_count_106 : decode cX10_count 106 = .ok (.invokevirtual 252, 3) := by decide +kernel
theorem dX10_count_109 : decode cX10_count 109 = .ok (.ireturn, 1) := by decide +kernel
theorem dX10_count_110 : decode cX10_count 110 = .ok (.aload_n 0, 1) := by decide +kernel
theorem dX10_count_111 : decode cX10_count 111 = .ok (.getfield 22, 3) := by decide +kernel
theorem dX10_count_114 : decode cX10_count 114 = .ok (.invokevirtual 278, 3) := by decide +kernel
theorem dX10_count_117 : decode cX10_count 117 = .ok (.ireturn, 1) := by decide +kernel
theorem dX10_count_118 : decode cX10_count 118 = .ok (.aload_n 0, 1) := by decide +kernel
theorem dX10_count_119 : decode cX10_count 119 = .ok (.getfield 32, 3) := by decide +kernel
theorem dX10_count_122 : decode cX10_count 122 = .ok (.getfield 103, 3) := by decide +kernel
theorem dX10_count_125 : decode cX10_count 125 = .ok (.ireturn, 1) := by decide +kernel
theorem dX10_count_126 : decode cX10_count 126 = .ok (.aload_n 0, 1) := by decide +kernel
theorem dX10_count_127 : decode cX10_count 127 = .ok (.getfield 44, 3) := by decide +kernel
theorem dX10_count_130 : decode cX10_count 130 = .ok (.invokevirtual 281, 3) := by decide +kernel
theorem dX10_count_133 : decode cX10_count 133 = .ok (.ireturn, 1) := by decide +kernel
theorem dX10_count_134 : decode cX10_count 134 = .ok (.aload_n 0, 1) := by decide +kernel
theorem dX10_count_135 : decode cX10_count 135 = .ok (.getfield 61, 3) := by decide +kernel
theorem dX10_count_138 : decode cX10_count 138 = .ok (.getfield 198, 3) := by decide +kernel
theorem dX10_count_141 : decode cX10_count 141 = .ok (.ireturn, 1) := by decide +kernel
theorem dX10_count_142 : decode cX10_count 142 = .ok (.aload_n 0, 1) := by decide +kernel
theorem dX10_count_143 : decode cX10_count 143 = .ok (.getfield 13, 3) := by decide +kernel
theorem dX10_count_146 : decode cX10_count 146 = .ok (.getfield 72, 3) := by decide +kernel
theorem dX10_count_149 : decode cX10_count 149 = .ok (.ireturn, 1) := by decide +kernel
theorem dX10_count_150 : decode cX10_count 150 = .ok (.iconst (-1), 1) := by decide +kernel
theorem dX10_count_151 : decode cX10_count 151 = .ok (.ireturn, 1) := by decide +kernel
theorem dX10_isSettledLaw_0 : decode cX10_isSettledLaw 0 = .ok (.iload_n 0, 1) := by decide +kernel
theorem dX10_isSettledLaw_1 : decode cX10_isSettledLaw 1 = .ok (.ifCond .lt 18, 3) := by decide +kernel
theorem dX10_isSettledLaw_4 : decode cX10_isSettledLaw 4 = .ok (.iload_n 0, 1) := by decide +kernel
theorem dX10_isSettledLaw_5 : decode cX10_isSettledLaw 5 = .ok (.bipush 8, 2) := by decide +kernel
theorem dX10_isSettledLaw_7 : decode cX10_isSettledLaw 7 = .ok (.if_icmp .gt 12, 3) := by decide +kernel
theorem dX10_isSettledLaw_10 : decode cX10_isSettledLaw 10 = .ok (.iload_n 0, 1) := by decide +kernel
theorem dX10_isSettledLaw_11 : decode cX10_isSettledLaw 11 = .ok (.iconst 3, 1) := by decide +kernel
theorem dX10_isSettledLaw_12 : decode cX10_isSettledLaw 12 = .ok (.if_icmp .eq 7, 3) := by decide +kernel
theorem dX10_isSettledLaw_15 : decode cX10_isSettledLaw 15 = .ok (.iconst 1, 1) := by decide +kernel
theorem dX10_isSettledLaw_16 : decode cX10_isSettledLaw 16 = .ok (.goto 4, 3) := by decide +kernel
theorem dX10_isSettledLaw_19 : decode cX10_isSettledLaw 19 = .ok (.iconst 0, 1) := by decide +kernel
theorem dX10_isSettledLaw_20 : decode cX10_isSettledLaw 20 = .ok (.ireturn, 1) := by decide +kernel
theorem dX10_canStand_0 : decode cX10_canStand 0 = .ok (.iload_n 0, 1) := by decide +kernel
theorem dX10_canStand_1 : decode cX10_canStand 1 = .ok (.ifCond .lt 29, 3) := by decide +kernel
theorem dX10_canStand_4 : decode cX10_canStand 4 = .ok (.iload_n 0, 1) := by decide +kernel
theorem dX10_canStand_5 : decode cX10_canStand 5 = .ok (.bipush 120, 2) := by decide +kernel
theorem dX10_canStand_7 : decode cX10_canStand 7 = .ok (.if_icmp .gt 23, 3) := by decide +kernel
theorem dX10_canStand_10 : decode cX10_canStand 10 = .ok (.iload_n 1, 1) := by decide +kernel
theorem dX10_canStand_11 : decode cX10_canStand 11 = .ok (.ifCond .lt 19, 3) := by decide +kernel
theorem dX10_canStand_14 : decode cX10_canStand 14 = .ok (.iload_n 2, 1) := by decide +kernel
theorem dX10_canStand_15 : decode cX10_canStand 15 = .ok (.ifCond .lt 15, 3) := by decide +kernel
theorem dX10_canStand_18 : decode cX10_canStand 18 = .ok (.iload_n 1, 1) := by decide +kernel
theorem dX10_canStand_19 : decode cX10_canStand 19 = .ok (.iload_n 2, 1) := by decide +kernel
theorem dX10_canStand_20 : decode cX10_canStand 20 = .ok (.iadd, 1) := by decide +kernel
theorem dX10_canStand_21 : decode cX10_canStand 21 = .ok (.bipush 12, 2) := by decide +kernel
theorem dX10_canStand_23 : decode cX10_canStand 23 = .ok (.if_icmp .gt 7, 3) := by decide +kernel
theorem dX10_canStand_26 : decode cX10_canStand 26 = .ok (.iconst 1, 1) := by decide +kernel
theorem dX10_canStand_27 : decode cX10_canStand 27 = .ok (.goto 4, 3) := by decide +kernel
theorem dX10_canStand_30 : decode cX10_canStand 30 = .ok (.iconst 0, 1) := by decide +kernel
theorem dX10_canStand_31 : decode cX10_canStand 31 = .ok (.ireturn, 1) := by decide +kernel
theorem dX10_placeBy_0 : decode cX10_placeBy 0 = .ok (.iload_n 0, 1) := by decide +kernel
theorem dX10_placeBy_1 : decode cX10_placeBy 1 = .ok (.ifCond .ne 5, 3) := by decide +kernel
theorem dX10_placeBy_4 : decode cX10_placeBy 4 = .ok (.iconst 0, 1) := by decide +kernel
theorem dX10_placeBy_5 : decode cX10_placeBy 5 = .ok (.ireturn, 1) := by decide +kernel
theorem dX10_placeBy_6 : decode cX10_placeBy 6 = .ok (.iload_n 0, 1) := by decide +kernel
theorem dX10_placeBy_7 : decode cX10_placeBy 7 = .ok (.iconst 2, 1) := by decide +kernel
theorem dX10_placeBy_8 : decode cX10_placeBy 8 = .ok (.if_icmp .ne 9, 3) := by decide +kernel
theorem dX10_placeBy_11 : decode cX10_placeBy 11 = .ok (.iload_n 1, 1) := by decide +kernel
theorem dX10_placeBy_12 : decode cX10_placeBy 12 = .ok (.iconst 2, 1) := by decide +kernel
theorem dX10_placeBy_13 : decode cX10_placeBy 13 = .ok (.idiv, 1) := by decide +kernel
theorem dX10_placeBy_14 : decode cX10_placeBy 14 = .ok (.goto 6, 3) := by decide +kernel
theorem dX10_placeBy_17 : decode cX10_placeBy 17 = .ok (.iload_n 1, 1) := by decide +kernel
theorem dX10_placeBy_18 : decode cX10_placeBy 18 = .ok (.iconst 1, 1) := by decide +kernel
theorem dX10_placeBy_19 : decode cX10_placeBy 19 = .ok (.isub, 1) := by decide +kernel
theorem dX10_placeBy_20 : decode cX10_placeBy 20 = .ok (.ireturn, 1) := by decide +kernel
theorem dX10_bitAtPlace_0 : decode cX10_bitAtPlace 0 = .ok (.iconst 0, 1) := by decide +kernel
theorem dX10_bitAtPlace_1 : decode cX10_bitAtPlace 1 = .ok (.istore_n 2, 1) := by decide +kernel
theorem dX10_bitAtPlace_2 : decode cX10_bitAtPlace 2 = .ok (.iconst 0, 1) := by decide +kernel
theorem dX10_bitAtPlace_3 : decode cX10_bitAtPlace 3 = .ok (.istore_n 3, 1) := by decide +kernel
theorem dX10_bitAtPlace_4 : decode cX10_bitAtPlace 4 = .ok (.iload_n 3, 1) := by decide +kernel
theorem dX10_bitAtPlace_5 : decode cX10_bitAtPlace 5 = .ok (.bipush 12, 2) := by decide +kernel
theorem dX10_bitAtPlace_7 : decode cX10_bitAtPlace 7 = .ok (.if_icmp .ge 35, 3) := by decide +kernel
theorem dX10_bitAtPlace_10 : decode cX10_bitAtPlace 10 = .ok (.iconst 1, 1) := by decide +kernel
theorem dX10_bitAtPlace_11 : decode cX10_bitAtPlace 11 = .ok (.iload_n 3, 1) := by decide +kernel
theorem dX10_bitAtPlace_12 : decode cX10_bitAtPlace 12 = .ok (.ishl, 1) := by decide +kernel
theorem dX10_bitAtPlace_13 : decode cX10_bitAtPlace 13 = .ok (.istore 4, 2) := by decide +kernel
theorem dX10_bitAtPlace_15 : decode cX10_bitAtPlace 15 = .ok (.iload_n 0, 1) := by decide +kernel
theorem dX10_bitAtPlace_16 : decode cX10_bitAtPlace 16 = .ok (.iload 4, 2) := by decide +kernel
theorem dX10_bitAtPlace_18 : decode cX10_bitAtPlace 18 = .ok (.iand, 1) := by decide +kernel
theorem dX10_bitAtPlace_19 : decode cX10_bitAtPlace 19 = .ok (.ifCond .ne 6, 3) := by decide +kernel
theorem dX10_bitAtPlace_22 : decode cX10_bitAtPlace 22 = .ok (.goto 14, 3) := by decide +kernel
theorem dX10_bitAtPlace_25 : decode cX10_bitAtPlace 25 = .ok (.iload_n 2, 1) := by decide +kernel
theorem dX10_bitAtPlace_26 : decode cX10_bitAtPlace 26 = .ok (.iload_n 1, 1) := by decide +kernel
theorem dX10_bitAtPlace_27 : decode cX10_bitAtPlace 27 = .ok (.if_icmp .ne 6, 3) := by decide +kernel
theorem dX10_bitAtPlace_30 : decode cX10_bitAtPlace 30 = .ok (.iload 4, 2) := by decide +kernel
theorem dX10_bitAtPlace_32 : decode cX10_bitAtPlace 32 = .ok (.ireturn, 1) := by decide +kernel
theorem dX10_bitAtPlace_33 : decode cX10_bitAtPlace 33 = .ok (.iinc 2 1, 3) := by decide +kernel
theorem dX10_bitAtPlace_36 : decode cX10_bitAtPlace 36 = .ok (.iinc 3 1, 3) := by decide +kernel
theorem dX10_bitAtPlace_39 : decode cX10_bitAtPlace 39 = .ok (.goto (-35), 3) := by decide +kernel
theorem dX10_bitAtPlace_42 : decode cX10_bitAtPlace 42 = .ok (.iconst 0, 1) := by decide +kernel
theorem dX10_bitAtPlace_43 : decode cX10_bitAtPlace 43 = .ok (.ireturn, 1) := by decide +kernel
theorem dX10_unlike_0 : decode cX10_unlike 0 = .ok (.lload_n 0, 1) := by decide +kernel
theorem dX10_unlike_1 : decode cX10_unlike 1 = .ok (.lconst 0, 1) := by decide +kernel
theorem dX10_unlike_2 : decode cX10_unlike 2 = .ok (.lcmp, 1) := by decide +kernel
theorem dX10_unlike_3 : decode cX10_unlike 3 = .ok (.ifCond .ne 7, 3) := by decide +kernel
theorem dX10_unlike_6 : decode cX10_unlike 6 = .ok (.iconst 0, 1) := by decide +kernel
theorem dX10_unlike_7 : decode cX10_unlike 7 = .ok (.goto 16, 3) := by decide +kernel
theorem dX10_unlike_10 : decode cX10_unlike 10 = .ok (.lload_n 0, 1) := by decide +kernel
theorem dX10_unlike_11 : decode cX10_unlike 11 = .ok (.lload 4, 2) := by decide +kernel
theorem dX10_unlike_13 : decode cX10_unlike 13 = .ok (.lmul, 1) := by decide +kernel
theorem dX10_unlike_14 : decode cX10_unlike 14 = .ok (.lload_n 2, 1) := by decide +kernel
theorem dX10_unlike_15 : decode cX10_unlike 15 = .ok (.lload_n 2, 1) := by decide +kernel
theorem dX10_unlike_16 : decode cX10_unlike 16 = .ok (.lmul, 1) := by decide +kernel
theorem dX10_unlike_17 : decode cX10_unlike 17 = .ok (.lsub, 1) := by decide +kernel
theorem dX10_unlike_18 : decode cX10_unlike 18 = .ok (.lload_n 0, 1) := by decide +kernel
theorem dX10_unlike_19 : decode cX10_unlike 19 = .ok (.lload_n 0, 1) := by decide +kernel
theorem dX10_unlike_20 : decode cX10_unlike 20 = .ok (.lmul, 1) := by decide +kernel
theorem dX10_unlike_21 : decode cX10_unlike 21 = .ok (.ldiv, 1) := by decide +kernel
theorem dX10_unlike_22 : decode cX10_unlike 22 = .ok (.l2i, 1) := by decide +kernel
theorem dX10_unlike_23 : decode cX10_unlike 23 = .ok (.ireturn, 1) := by decide +kernel
theorem dX11_init_0 : decode cX11_init 0 = .ok (.aload_n 0, 1) := by decide +kernel
theorem dX11_init_1 : decode cX11_init 1 = .ok (.invokespecial 3, 3) := by decide +kernel
theorem dX11_init_4 : decode cX11_init 4 = .ok (.aload_n 0, 1) := by decide +kernel
theorem dX11_init_5 : decode cX11_init 5 = .ok (.sipush 500, 3) := by decide +kernel
theorem dX11_init_8 : decode cX11_init 8 = .ok (.newarray .byte, 2) := by decide +kernel
theorem dX11_init_10 : decode cX11_init 10 = .ok (.putfield 9, 3) := by decide +kernel
theorem dX11_init_13 : decode cX11_init 13 = .ok (.aload_n 0, 1) := by decide +kernel
theorem dX11_init_14 : decode cX11_init 14 = .ok (.bipush 9, 2) := by decide +kernel
theorem dX11_init_16 : decode cX11_init 16 = .ok (.newarray .int, 2) := by decide +kernel
theorem dX11_init_18 : decode cX11_init 18 = .ok (.putfield 13, 3) := by decide +kernel
theorem dX11_init_21 : decode cX11_init 21 = .ok (.aload_n 0, 1) := by decide +kernel
theorem dX11_init_22 : decode cX11_init 22 = .ok (.iconst 5, 1) := by decide +kernel
theorem dX11_init_23 : decode cX11_init 23 = .ok (.newarray .long, 2) := by decide +kernel
theorem dX11_init_25 : decode cX11_init 25 = .ok (.putfield 17, 3) := by decide +kernel
theorem dX11_init_28 : decode cX11_init 28 = .ok (.aload_n 0, 1) := by decide +kernel
theorem dX11_init_29 : decode cX11_init 29 = .ok (.bipush 30, 2) := by decide +kernel
theorem dX11_init_31 : decode cX11_init 31 = .ok (.newarray .int, 2) := by decide +kernel
theorem dX11_init_33 : decode cX11_init 33 = .ok (.putfield 21, 3) := by decide +kernel
theorem dX11_init_36 : decode cX11_init 36 = .ok (.aload_n 0, 1) := by decide +kernel
theorem dX11_init_37 : decode cX11_init 37 = .ok (.iconst 3, 1) := by decide +kernel
theorem dX11_init_38 : decode cX11_init 38 = .ok (.newarray .int, 2) := by decide +kernel
theorem dX11_init_40 : decode cX11_init 40 = .ok (.putfield 24, 3) := by decide +kernel
theorem dX11_init_43 : decode cX11_init 43 = .ok (.aload_n 0, 1) := by decide +kernel
theorem dX11_init_44 : decode cX11_init 44 = .ok (.bipush 9, 2) := by decide +kernel
theorem dX11_init_46 : decode cX11_init 46 = .ok (.newarray .int, 2) := by decide +kernel
theorem dX11_init_48 : decode cX11_init 48 = .ok (.putfield 27, 3) := by decide +kernel
theorem dX11_init_51 : decode cX11_init 51 = .ok (.aload_n 0, 1) := by decide +kernel
theorem dX11_init_52 : decode cX11_init 52 = .ok (.bipush 30, 2) := by decide +kernel
theorem dX11_init_54 : decode cX11_init 54 = .ok (.newarray .int, 2) := by decide +kernel
theorem dX11_init_56 : decode cX11_init 56 = .ok (.putfield 30, 3) := by decide +kernel
theorem dX11_init_59 : decode cX11_init 59 = .ok (.aload_n 0, 1) := by decide +kernel
theorem dX11_init_60 : decode cX11_init 60 = .ok (.sipush 1200, 3) := by decide +kernel
theorem dX11_init_63 : decode cX11_init 63 = .ok (.newarray .int, 2) := by decide +kernel
theorem dX11_init_65 : decode cX11_init 65 = .ok (.putfield 33, 3) := by decide +kernel
theorem dX11_init_68 : decode cX11_init 68 = .ok (.aload_n 0, 1) := by decide +kernel
theorem dX11_init_69 : decode cX11_init 69 = .ok (.bipush 6, 2) := by decide +kernel
theorem dX11_init_71 : decode cX11_init 71 = .ok (.newarray .int, 2) := by decide +kernel
theorem dX11_init_73 : decode cX11_init 73 = .ok (.putfield 36, 3) := by decide +kernel
theorem dX11_init_76 : decode cX11_init 76 = .ok (.aload_n 0, 1) := by decide +kernel
theorem dX11_init_77 : decode cX11_init 77 = .ok (.iconst 5, 1) := by decide +kernel
theorem dX11_init_78 : decode cX11_init 78 = .ok (.newarray .boolean, 2) := by decide +kernel
theorem dX11_init_80 : decode cX11_init 80 = .ok (.putfield 39, 3) := by decide +kernel
theorem dX11_init_83 : decode cX11_init 83 = .ok (.aload_n 0, 1) := by decide +kernel
theorem dX11_init_84 : decode cX11_init 84 = .ok (.sipush 1200, 3) := by decide +kernel
theorem dX11_init_87 : decode cX11_init 87 = .ok (.newarray .int, 2) := by decide +kernel
theorem dX11_init_89 : decode cX11_init 89 = .ok (.putfield 43, 3) := by decide +kernel
theorem dX11_init_92 : decode cX11_init 92 = .ok (.aload_n 0, 1) := by decide +kernel
theorem dX11_init_93 : decode cX11_init 93 = .ok (.bipush 6, 2) := by decide +kernel
theorem dX11_init_95 : decode cX11_init 95 = .ok (.newarray .int, 2) := by decide +kernel
theorem dX11_init_97 : decode cX11_init 97 = .ok (.putfield 46, 3) := by decide +kernel
theorem dX11_init_100 : decode cX11_init 100 = .ok (.aload_n 0, 1) := by decide +kernel
theorem dX11_init_101 : decode cX11_init 101 = .ok (.iconst 5, 1) := by decide +kernel
theorem dX11_init_102 : decode cX11_init 102 = .ok (.newarray .boolean, 2) := by decide +kernel
theorem dX11_init_104 : decode cX11_init 104 = .ok (.putfield 49, 3) := by decide +kernel
theorem dX11_init_107 : decode cX11_init 107 = .ok (.aload_n 0, 1) := by decide +kernel
theorem dX11_init_108 : decode cX11_init 108 = .ok (.iconst 3, 1) := by decide +kernel
theorem dX11_init_109 : decode cX11_init 109 = .ok (.newarray .int, 2) := by decide +kernel
theorem dX11_init_111 : decode cX11_init 111 = .ok (.putfield 52, 3) := by decide +kernel
theorem dX11_init_114 : decode cX11_init 114 = .ok (.aload_n 0, 1) := by decide +kernel
theorem dX11_init_115 : decode cX11_init 115 = .ok (.iconst 3, 1) := by decide +kernel
theorem dX11_init_116 : decode cX11_init 116 = .ok (.newarray .int, 2) := by decide +kernel
theorem dX11_init_118 : decode cX11_init 118 = .ok (.putfield 55, 3) := by decide +kernel
theorem dX11_init_121 : decode cX11_init 121 = .ok (.aload_n 0, 1) := by decide +kernel
theorem dX11_init_122 : decode cX11_init 122 = .ok (.iconst 3, 1) := by decide +kernel
theorem dX11_init_123 : decode cX11_init 123 = .ok (.newarray .int, 2) := by decide +kernel
theorem dX11_init_125 : decode cX11_init 125 = .ok (.putfield 58, 3) := by decide +kernel
theorem dX11_init_128 : decode cX11_init 128 = .ok (.aload_n 0, 1) := by decide +kernel
theorem dX11_init_129 : decode cX11_init 129 = .ok (.bipush 90, 2) := by decide +kernel
theorem dX11_init_131 : decode cX11_init 131 = .ok (.newarray .int, 2) := by decide +kernel
theorem dX11_init_133 : decode cX11_init 133 = .ok (.putfield 61, 3) := by decide +kernel
theorem dX11_init_136 : decode cX11_init 136 = .ok (.aload_n 0, 1) := by decide +kernel
theorem dX11_init_137 : decode cX11_init 137 = .ok (.sipush 210, 3) := by decide +kernel
theorem dX11_init_140 : decode cX11_init 140 = .ok (.newarray .int, 2) := by decide +kernel
theorem dX11_init_142 : decode cX11_init 142 = .ok (.putfield 64, 3) := by decide +kernel
theorem dX11_init_145 : decode cX11_init 145 = .ok (.aload_n 0, 1) := by decide +kernel
theorem dX11_init_146 : decode cX11_init 146 = .ok (.bipush 35, 2) := by decide +kernel
theorem dX11_init_148 : decode cX11_init 148 = .ok (.newarray .int, 2) := by decide +kernel
theorem dX11_init_150 : decode cX11_init 150 = .ok (.putfield 67, 3) := by decide +kernel
theorem dX11_init_153 : decode cX11_init 153 = .ok (.aload_n 0, 1) := by decide +kernel
theorem dX11_init_154 : decode cX11_init 154 = .ok (.bipush 100, 2) := by decide +kernel
theorem dX11_init_156 : decode cX11_init 156 = .ok (.newarray .int, 2) := by decide +kernel
theorem dX11_init_158 : decode cX11_init 158 = .ok (.putfield 70, 3) := by decide +kernel
theorem dX11_init_161 : decode cX11_init 161 = .ok (.aload_n 0, 1) := by decide +kernel
theorem dX11_init_162 : decode cX11_init 162 = .ok (.bipush 8, 2) := by decide +kernel
theorem dX11_init_164 : decode cX11_init 164 = .ok (.newarray .int, 2) := by decide +kernel
theorem dX11_init_166 : decode cX11_init 166 = .ok (.putfield 73, 3) := by decide +kernel
theorem dX11_init_169 : decode cX11_init 169 = .ok (.aload_n 0, 1) := by decide +kernel
theorem dX11_init_170 : decode cX11_init 170 = .ok (.bipush 8, 2) := by decide +kernel
theorem dX11_init_172 : decode cX11_init 172 = .ok (.newarray .int, 2) := by decide +kernel
theorem dX11_init_174 : decode cX11_init 174 = .ok (.putfield 76, 3) := by decide +kernel
theorem dX11_init_177 : decode cX11_init 177 = .ok (.aload_n 0, 1) := by decide +kernel
theorem dX11_init_178 : decode cX11_init 178 = .ok (.iconst 3, 1) := by decide +kernel
theorem dX11_init_179 : decode cX11_init 179 = .ok (.newarray .boolean, 2) := by decide +kernel
theorem dX11_init_181 : decode cX11_init 181 = .ok (.putfield 79, 3) := by decide +kernel
theorem dX11_init_184 : decode cX11_init 184 = .ok (.aload_n 0, 1) := by decide +kernel
theorem dX11_init_185 : decode cX11_init 185 = .ok (.sipush 1338, 3) := by decide +kernel
theorem dX11_init_188 : decode cX11_init 188 = .ok (.newarray .int, 2) := by decide +kernel
theorem dX11_init_190 : decode cX11_init 190 = .ok (.putfield 82, 3) := by decide +kernel
theorem dX11_init_193 : decode cX11_init 193 = .ok (.aload_n 0, 1) := by decide +kernel
theorem dX11_init_194 : decode cX11_init 194 = .ok (.iconst 3, 1) := by decide +kernel
theorem dX11_init_195 : decode cX11_init 195 = .ok (.newarray .long, 2) := by decide +kernel
theorem dX11_init_197 : decode cX11_init 197 = .ok (.putfield 85, 3) := by decide +kernel
theorem dX11_init_200 : decode cX11_init 200 = .ok (.aload_n 0, 1) := by decide +kernel
theorem dX11_init_201 : decode cX11_init 201 = .ok (.sipush 600, 3) := by decide +kernel
theorem dX11_init_204 : decode cX11_init 204 = .ok (.newarray .int, 2) := by decide +kernel
theorem dX11_init_206 : decode cX11_init 206 = .ok (.putfield 88, 3) := by decide +kernel
theorem dX11_init_209 : decode cX11_init 209 = .ok (.aload_n 0, 1) := by decide +kernel
theorem dX11_init_210 : decode cX11_init 210 = .ok (.bipush 9, 2) := by decide +kernel
theorem dX11_init_212 : decode cX11_init 212 = .ok (.newarray .boolean, 2) := by decide +kernel
theorem dX11_init_214 : decode cX11_init 214 = .ok (.putfield 91, 3) := by decide +kernel
theorem dX11_init_217 : decode cX11_init 217 = .ok (.aload_n 0, 1) := by decide +kernel
theorem dX11_init_218 : decode cX11_init 218 = .ok (.bipush 10, 2) := by decide +kernel
theorem dX11_init_220 : decode cX11_init 220 = .ok (.newarray .int, 2) := by decide +kernel
theorem dX11_init_222 : decode cX11_init 222 = .ok (.putfield 94, 3) := by decide +kernel
theorem dX11_init_225 : decode cX11_init 225 = .ok (.aload_n 0, 1) := by decide +kernel
theorem dX11_init_226 : decode cX11_init 226 = .ok (.sipush 600, 3) := by decide +kernel
theorem dX11_init_229 : decode cX11_init 229 = .ok (.newarray .int, 2) := by decide +kernel
theorem dX11_init_231 : decode cX11_init 231 = .ok (.putfield 97, 3) := by decide +kernel
theorem dX11_init_234 : decode cX11_init 234 = .ok (.aload_n 0, 1) := by decide +kernel
theorem dX11_init_235 : decode cX11_init 235 = .ok (.bipush 8, 2) := by decide +kernel
theorem dX11_init_237 : decode cX11_init 237 = .ok (.newarray .int, 2) := by decide +kernel
theorem dX11_init_239 : decode cX11_init 239 = .ok (.putfield 100, 3) := by decide +kernel
theorem dX11_init_242 : decode cX11_init 242 = .ok (.aload_n 0, 1) := by decide +kernel
theorem dX11_init_243 : decode cX11_init 243 = .ok (.bipush 8, 2) := by decide +kernel
theorem dX11_init_245 : decode cX11_init 245 = .ok (.newarray .int, 2) := by decide +kernel
theorem dX11_init_247 : decode cX11_init 247 = .ok (.putfield 103, 3) := by decide +kernel
theorem dX11_init_250 : decode cX11_init 250 = .ok (.aload_n 0, 1) := by decide +kernel
theorem dX11_init_251 : decode cX11_init 251 = .ok (.bipush 8, 2) := by decide +kernel
theorem dX11_init_253 : decode cX11_init 253 = .ok (.newarray .int, 2) := by decide +kernel
theorem dX11_init_255 : decode cX11_init 255 = .ok (.putfield 106, 3) := by decide +kernel
theorem dX11_init_258 : decode cX11_init 258 = .ok (.aload_n 0, 1) := by decide +kernel
theorem dX11_init_259 : decode cX11_init 259 = .ok (.sipush 256, 3) := by decide +kernel
theorem dX11_init_262 : decode cX11_init 262 = .ok (.newarray .int, 2) := by decide +kernel
theorem dX11_init_264 : decode cX11_init 264 = .ok (.putfield 109, 3) := by decide +kernel
theorem dX11_init_267 : decode cX11_init 267 = .ok (.aload_n 0, 1) := by decide +kernel
theorem dX11_init_268 : decode cX11_init 268 = .ok (.sipush 256, 3) := by decide +kernel
theorem dX11_init_271 : decode cX11_init 271 = .ok (.newarray .long, 2) := by decide +kernel
theorem dX11_init_273 : decode cX11_init 273 = .ok (.putfield 112, 3) := by decide +kernel
theorem dX11_init_276 : decode cX11_init 276 = .ok (.aload_n 0, 1) := by decide +kernel
theorem dX11_init_277 : decode cX11_init 277 = .ok (.sipush 20449, 3) := by decide +kernel
theorem dX11_init_280 : decode cX11_init 280 = .ok (.newarray .int, 2) := by decide +kernel
theorem dX11_init_282 : decode cX11_init 282 = .ok (.putfield 115, 3) := by decide +kernel
theorem dX11_init_285 : decode cX11_init 285 = .ok (.return_, 1) := by decide +kernel
theorem dX11_in_0 : decode cX11_in 0 = .ok (.iload_n 0, 1) := by decide +kernel
theorem dX11_in_1 : decode cX11_in 1 = .ok (.iload_n 1, 1) := by decide +kernel
theorem dX11_in_2 : decode cX11_in 2 = .ok (.if_icmp .lt 12, 3) := by decide +kernel
theorem dX11_in_5 : decode cX11_in 5 = .ok (.iload_n 0, 1) := by decide +kernel
theorem dX11_in_6 : decode cX11_in 6 = .ok (.iload_n 2, 1) := by decide +kernel
theorem dX11_in_7 : decode cX11_in 7 = .ok (.if_icmp .gt 7, 3) := by decide +kernel
theorem dX11_in_10 : decode cX11_in 10 = .ok (.iconst 1, 1) := by decide +kernel
theorem dX11_in_11 : decode cX11_in 11 = .ok (.goto 4, 3) := by decide +kernel
theorem dX11_in_14 : decode cX11_in 14 = .ok (.iconst 0, 1) := by decide +kernel
theorem dX11_in_15 : decode cX11_in 15 = .ok (.ireturn, 1) := by decide +kernel
theorem dX11_feed_0 : decode cX11_feed 0 = .ok (.aload_n 0, 1) := by decide +kernel
theorem dX11_feed_1 : decode cX11_feed 1 = .ok (.getfield 118, 3) := by decide +kernel
theorem dX11_feed_4 : decode cX11_feed 4 = .ok (.bipush 20, 2) := by decide +kernel
theorem dX11_feed_6 : decode cX11_feed 6 = .ok (.iadd, 1) := by decide +kernel
theorem dX11_feed_7 : decode cX11_feed 7 = .ok (.sipush 500, 3) := by decide +kernel
theorem dX11_feed_10 : decode cX11_feed 10 = .ok (.if_icmp .le 5, 3) := by decide +kernel
theorem dX11_feed_13 : decode cX11_feed 13 = .ok (.iconst (-1), 1) := by decide +kernel
theorem dX11_feed_14 : decode cX11_feed 14 = .ok (.ireturn, 1) := by decide +kernel
theorem dX11_feed_15 : decode cX11_feed 15 = .ok (.iconst 0, 1) := by decide +kernel
theorem dX11_feed_16 : decode cX11_feed 16 = .ok (.istore 6, 2) := by decide +kernel
theorem dX11_feed_18 : decode cX11_feed 18 = .ok (.iload 6, 2) := by decide +kernel
theorem dX11_feed_20 : decode cX11_feed 20 = .ok (.bipush 20, 2) := by decide +kernel
theorem dX11_feed_22 : decode cX11_feed 22 = .ok (.if_icmp .ge 90, 3) := by decide +kernel
theorem dX11_feed_25 : decode cX11_feed 25 = .ok (.iload 6, 2) := by decide +kernel
theorem dX11_feed_27 : decode cX11_feed 27 = .ok (.iconst 4, 1) := by decide +kernel
theorem dX11_feed_28 : decode cX11_feed 28 = .ok (.if_icmp .ge 7, 3) := by decide +kernel
theorem dX11_feed_31 : decode cX11_feed 31 = .ok (.iload_n 1, 1) := by decide +kernel
theorem dX11_feed_32 : decode cX11_feed 32 = .ok (.goto 39, 3) := by decide +kernel
theorem dX11_feed_35 : decode cX11_feed 35 = .ok (.iload 6, 2) := by decide +kernel
theorem dX11_feed_37 : decode cX11_feed 37 = .ok (.bipush 8, 2) := by decide +kernel
theorem dX11_feed_39 : decode cX11_feed 39 = .ok (.if_icmp .ge 7, 3) := by decide +kernel
theorem dX11_feed_42 : decode cX11_feed 42 = .ok (.iload_n 2, 1) := by decide +kernel
theorem dX11_feed_43 : decode cX11_feed 43 = .ok (.goto 28, 3) := by decide +kernel
theorem dX11_feed_46 : decode cX11_feed 46 = .ok (.iload 6, 2) := by decide +kernel
theorem dX11_feed_48 : decode cX11_feed 48 = .ok (.bipush 12, 2) := by decide +kernel
theorem dX11_feed_50 : decode cX11_feed 50 = .ok (.if_icmp .ge 7, 3) := by decide +kernel
theorem dX11_feed_53 : decode cX11_feed 53 = .ok (.iload_n 3, 1) := by decide +kernel
theorem dX11_feed_54 : decode cX11_feed 54 = .ok (.goto 17, 3) := by decide +kernel
theorem dX11_feed_57 : decode cX11_feed 57 = .ok (.iload 6, 2) := by decide +kernel
theorem dX11_feed_59 : decode cX11_feed 59 = .ok (.bipush 16, 2) := by decide +kernel
theorem dX11_feed_61 : decode cX11_feed 61 = .ok (.if_icmp .ge 8, 3) := by decide +kernel
theorem dX11_feed_64 : decode cX11_feed 64 = .ok (.iload 4, 2) := by decide +kernel
theorem dX11_feed_66 : decode cX11_feed 66 = .ok (.goto 5, 3) := by decide +kernel
theorem dX11_feed_69 : decode cX11_feed 69 = .ok (.iload 5, 2) := by decide +kernel
theorem dX11_feed_71 : decode cX11_feed 71 = .ok (.istore 7, 2) := by decide +kernel
theorem dX11_feed_73 : decode cX11_feed 73 = .ok (.aload_n 0, 1) := by decide +kernel
theorem dX11_feed_74 : decode cX11_feed 74 = .ok (.getfield 9, 3) := by decide +kernel
theorem dX11_feed_77 : decode cX11_feed 77 = .ok (.aload_n 0, 1) := by decide +kernel
theorem dX11_feed_78 : decode cX11_feed 78 = .ok (.getfield 118, 3) := by decide +kernel
theorem dX11_feed_81 : decode cX11_feed 81 = .ok (.iload 7, 2) := by decide +kernel
theorem dX11_feed_83 : decode cX11_feed 83 = .ok (.bipush 24, 2) := by decide +kernel
theorem dX11_feed_85 : decode cX11_feed 85 = .ok (.bipush 8, 2) := by decide +kernel
theorem dX11_feed_87 : decode cX11_feed 87 = .ok (.iload 6, 2) := by decide +kernel
theorem dX11_feed_89 : decode cX11_feed 89 = .ok (.iconst 4, 1) := by decide +kernel
theorem dX11_feed_90 : decode cX11_feed 90 = .ok (.irem, 1) := by decide +kernel
theorem dX11_feed_91 : decode cX11_feed 91 = .ok (.imul, 1) := by decide +kernel
theorem dX11_feed_92 : decode cX11_feed 92 = .ok (.isub, 1) := by decide +kernel
theorem dX11_feed_93 : decode cX11_feed 93 = .ok (.ishr, 1) := by decide +kernel
theorem dX11_feed_94 : decode cX11_feed 94 = .ok (.i2b, 1) := by decide +kernel
theorem dX11_feed_95 : decode cX11_feed 95 = .ok (.bastore, 1) := by decide +kernel
theorem dX11_feed_96 : decode cX11_feed 96 = .ok (.aload_n 0, 1) := by decide +kernel
theorem dX11_feed_97 : decode cX11_feed 97 = .ok (.dup, 1) := by decide +kernel
theorem dX11_feed_98 : decode cX11_feed 98 = .ok (.getfield 118, 3) := by decide +kernel
theorem dX11_feed_101 : decode cX11_feed 101 = .ok (.iconst 1, 1) := by decide +kernel
theorem dX11_feed_102 : decode cX11_feed 102 = .ok (.iadd, 1) := by decide +kernel
theorem dX11_feed_103 : decode cX11_feed 103 = .ok (.putfield 118, 3) := by decide +kernel
theorem dX11_feed_106 : decode cX11_feed 106 = .ok (.iinc 6 1, 3) := by decide +kernel
theorem dX11_feed_109 : decode cX11_feed 109 = .ok (.goto (-91), 3) := by decide +kernel
theorem dX11_feed_112 : decode cX11_feed 112 = .ok (.aload_n 0, 1) := by decide +kernel
theorem dX11_feed_113 : decode cX11_feed 113 = .ok (.getfield 118, 3) := by decide +kernel
theorem dX11_feed_116 : decode cX11_feed 116 = .ok (.ireturn, 1) := by decide +kernel
theorem dX11_end_0 : decode cX11_end 0 = .ok (.iload_n 1, 1) := by decide +kernel
theorem dX11_end_1 : decode cX11_end 1 = .ok (.iconst 0, 1) := by decide +kernel
theorem dX11_end_2 : decode cX11_end 2 = .ok (.aload_n 0, 1) := by decide +kernel
theorem dX11_end_3 : decode cX11_end 3 = .ok (.getfield 118, 3) := by decide +kernel
theorem dX11_end_6 : decode cX11_end 6 = .ok (.invokestatic 122, 3) := by decide +kernel
theorem dX11_end_9 : decode cX11_end 9 = .ok (.ifCond .ne 5, 3) := by decide +kernel
theorem dX11_end_12 : decode cX11_end 12 = .ok (.iconst 0, 1) := by decide +kernel
theorem dX11_end_13 : decode cX11_end 13 = .ok (.ireturn, 1) := by decide +kernel
theorem dX11_end_14 : decode cX11_end 14 = .ok (.aload_n 0, 1) := by decide +kernel
theorem dX11_end_15 : decode cX11_end 15 = .ok (.iload_n 1, 1) := by decide +kernel
theorem dX11_end_16 : decode cX11_end 16 = .ok (.putfield 118, 3) := by decide +kernel
theorem dX11_end_19 : decode cX11_end 19 = .ok (.iconst 1, 1) := by decide +kernel
theorem dX11_end_20 : decode cX11_end 20 = .ok (.ireturn, 1) := by decide +kernel
theorem dX11_isLetter_0 : decode cX11_isLetter 0 = .ok (.iload_n 0, 1) := by decide +kernel
theorem dX11_isLetter_1 : decode cX11_isLetter 1 = .ok (.bipush 97, 2) := by decide +kernel
theorem dX11_isLetter_3 : decode cX11_isLetter 3 = .ok (.if_icmp .lt 13, 3) := by decide +kernel
theorem dX11_isLetter_6 : decode cX11_isLetter 6 = .ok (.iload_n 0, 1) := by decide +kernel
theorem dX11_isLetter_7 : decode cX11_isLetter 7 = .ok (.bipush 122, 2) := by decide +kernel
theorem dX11_isLetter_9 : decode cX11_isLetter 9 = .ok (.if_icmp .gt 7, 3) := by decide +kernel
theorem dX11_isLetter_12 : decode cX11_isLetter 12 = .ok (.iconst 1, 1) := by decide +kernel
theorem dX11_isLetter_13 : decode cX11_isLetter 13 = .ok (.goto 4, 3) := by decide +kernel
theorem dX11_isLetter_16 : decode cX11_isLetter 16 = .ok (.iconst 0, 1) := by decide +kernel
theorem dX11_isLetter_17 : decode cX11_isLetter 17 = .ok (.ireturn, 1) := by decide +kernel
theorem dX11_isDigit_0 : decode cX11_isDigit 0 = .ok (.iload_n 0, 1) := by decide +kernel
theorem dX11_isDigit_1 : decode cX11_isDigit 1 = .ok (.bipush 48, 2) := by decide +kernel
theorem dX11_isDigit_3 : decode cX11_isDigit 3 = .ok (.if_icmp .lt 13, 3) := by decide +kernel
theorem dX11_isDigit_6 : decode cX11_isDigit 6 = .ok (.iload_n 0, 1) := by decide +kernel
theorem dX11_isDigit_7 : decode cX11_isDigit 7 = .ok (.bipush 57, 2) := by decide +kernel
theorem dX11_isDigit_9 : decode cX11_isDigit 9 = .ok (.if_icmp .gt 7, 3) := by decide +kernel
theorem dX11_isDigit_12 : decode cX11_isDigit 12 = .ok (.iconst 1, 1) := by decide +kernel
theorem dX11_isDigit_13 : decode cX11_isDigit 13 = .ok (.goto 4, 3) := by decide +kernel
theorem dX11_isDigit_16 : decode cX11_isDigit 16 = .ok (.iconst 0, 1) := by decide +kernel
theorem dX11_isDigit_17 : decode cX11_isDigit 17 = .ok (.ireturn, 1) := by decide +kernel
theorem dX11_isSignByte_0 : decode cX11_isSignByte 0 = .ok (.iload_n 0, 1) := by decide +kernel
theorem dX11_isSignByte_1 : decode cX11_isSignByte 1 = .ok (.bipush 43, 2) := by decide +kernel
theorem dX11_isSignByte_3 : decode cX11_isSignByte 3 = .ok (.if_icmp .eq 45, 3) := by decide +kernel
theorem dX11_isSignByte_6 : decode cX11_isSignByte 6 = .ok (.iload_n 0, 1) := by decide +kernel
theorem dX11_isSignByte_7 : decode cX11_isSignByte 7 = .ok (.bipush 45, 2) := by decide +kernel
theorem dX11_isSignByte_9 : decode cX11_isSignByte 9 = .ok (.if_icmp .eq 39, 3) := by decide +kernel
theorem dX11_isSignByte_12 : decode cX11_isSignByte 12 = .ok (.iload_n 0, 1) := by decide +kernel
theorem dX11_isSignByte_13 : decode cX11_isSignByte 13 = .ok (.bipush 42, 2) := by decide +kernel
theorem dX11_isSignByte_15 : decode cX11_isSignByte 15 = .ok (.if_icmp .eq 33, 3) := by decide +kernel
theorem dX11_isSignByte_18 : decode cX11_isSignByte 18 = .ok (.iload_n 0, 1) := by decide +kernel
theorem dX11_isSignByte_19 : decode cX11_isSignByte 19 = .ok (.bipush 60, 2) := by decide +kernel
theorem dX11_isSignByte_21 : decode cX11_isSignByte 21 = .ok (.if_icmp .eq 27, 3) := by decide +kernel
theorem dX11_isSignByte_24 : decode cX11_isSignByte 24 = .ok (.iload_n 0, 1) := by decide +kernel
theorem dX11_isSignByte_25 : decode cX11_isSignByte 25 = .ok (.bipush 61, 2) := by decide +kernel
theorem dX11_isSignByte_27 : decode cX11_isSignByte 27 = .ok (.if_icmp .eq 21, 3) := by decide +kernel
theorem dX11_isSignByte_30 : decode cX11_isSignByte 30 = .ok (.iload_n 0, 1) := by decide +kernel
theorem dX11_isSignByte_31 : decode cX11_isSignByte 31 = .ok (.bipush 40, 2) := by decide +kernel
theorem dX11_isSignByte_33 : decode cX11_isSignByte 33 = .ok (.if_icmp .eq 15, 3) := by decide +kernel
theorem dX11_isSignByte_36 : decode cX11_isSignByte 36 = .ok (.iload_n 0, 1) := by decide +kernel
theorem dX11_isSignByte_37 : decode cX11_isSignByte 37 = .ok (.bipush 41, 2) := by decide +kernel
theorem dX11_isSignByte_39 : decode cX11_isSignByte 39 = .ok (.if_icmp .eq 9, 3) := by decide +kernel
theorem dX11_isSignByte_42 : decode cX11_isSignByte 42 = .ok (.iload_n 0, 1) := by decide +kernel
theorem dX11_isSignByte_43 : decode cX11_isSignByte 43 = .ok (.bipush 59, 2) := by decide +kernel
theorem dX11_isSignByte_45 : decode cX11_isSignByte 45 = .ok (.if_icmp .ne 7, 3) := by decide +kernel
theorem dX11_isSignByte_48 : decode cX11_isSignByte 48 = .ok (.iconst 1, 1) := by decide +kernel
theorem dX11_isSignByte_49 : decode cX11_isSignByte 49 = .ok (.goto 4, 3) := by decide +kernel
theorem dX11_isSignByte_52 : decode cX11_isSignByte 52 = .ok (.iconst 0, 1) := by decide +kernel
theorem dX11_isSignByte_53 : decode cX11_isSignByte 53 = .ok (.ireturn, 1) := by decide +kernel
theorem dX11_leads_0 : decode cX11_leads 0 = .ok (.aload_n 0, 1) := by decide +kernel
theorem dX11_leads_1 : decode cX11_leads 1 = .ok (.getfield 126, 3) := by decide +kernel
theorem dX11_leads_4 : decode cX11_leads 4 = .ok (.aload_n 0, 1) := by decide +kernel
theorem dX11_leads_5 : decode cX11_leads 5 = .ok (.getfield 118, 3) := by decide +kernel
theorem dX11_leads_8 : decode cX11_leads 8 = .ok (.if_icmp .ge 44, 3) := by decide +kernel
theorem dX11_leads_11 : decode cX11_leads 11 = .ok (.aload_n 0, 1) := by decide +kernel
theorem dX11_leads_12 : decode cX11_leads 12 = .ok (.getfield 9, 3) := by decide +kernel
theorem dX11_leads_15 : decode cX11_leads 15 = .ok (.aload_n 0, 1) := by decide +kernel
theorem dX11_leads_16 : decode cX11_leads 16 = .ok (.getfield 126, 3) := by decide +kernel
theorem dX11_leads_19 : decode cX11_leads 19 = .ok (.baload, 1) := by decide +kernel
theorem dX11_leads_20 : decode cX11_leads 20 = .ok (.bipush 32, 2) := by decide +kernel
theorem dX11_leads_22 : decode cX11_leads 22 = .ok (.if_icmp .eq 17, 3) := by decide +kernel
theorem dX11_leads_25 : decode cX11_leads 25 = .ok (.aload_n 0, 1) := by decide +kernel
theorem dX11_leads_26 : decode cX11_leads 26 = .ok (.getfield 9, 3) := by decide +kernel
theorem dX11_leads_29 : decode cX11_leads 29 = .ok (.aload_n 0, 1) := by decide +kernel
theorem dX11_leads_30 : decode cX11_leads 30 = .ok (.getfield 126, 3) := by decide +kernel
theorem dX11_leads_33 : decode cX11_leads 33 = .ok (.baload, 1) := by decide +kernel
theorem dX11_leads_34 : decode cX11_leads 34 = .ok (.bipush 10, 2) := by decide +kernel
theorem dX11_leads_36 : decode cX11_leads 36 = .ok (.if_icmp .ne 16, 3) := by decide +kernel
theorem dX11_leads_39 : decode cX11_leads 39 = .ok (.aload_n 0, 1) := by decide +kernel
theorem dX11_leads_40 : decode cX11_leads 40 = .ok (.dup, 1) := by decide +kernel
theorem dX11_leads_41 : decode cX11_leads 41 = .ok (.getfield 126, 3) := by decide +kernel
theorem dX11_leads_44 : decode cX11_leads 44 = .ok (.iconst 1, 1) := by decide +kernel
theorem dX11_leads_45 : decode cX11_leads 45 = .ok (.iadd, 1) := by decide +kernel
theorem dX11_leads_46 : decode cX11_leads 46 = .ok (.putfield 126, 3) := by decide +kernel
theorem dX11_leads_49 : decode cX11_leads 49 = .ok (.goto (-49), 3) := by decide +kernel
theorem dX11_leads_52 : decode cX11_leads 52 = .ok (.aload_n 0, 1) := by decide +kernel
theorem dX11_leads_53 : decode cX11_leads 53 = .ok (.aload_n 0, 1) := by decide +kernel
theorem dX11_leads_54 : decode cX11_leads 54 = .ok (.getfield 126, 3) := by decide +kernel
theorem dX11_leads_57 : decode cX11_leads 57 = .ok (.putfield 129, 3) := by decide +kernel
theorem dX11_leads_60 : decode cX11_leads 60 = .ok (.aload_n 0, 1) := by decide +kernel
theorem dX11_leads_61 : decode cX11_leads 61 = .ok (.lconst 0, 1) := by decide +kernel
theorem dX11_leads_62 : decode cX11_leads 62 = .ok (.putfield 132, 3) := by decide +kernel
theorem dX11_leads_65 : decode cX11_leads 65 = .ok (.aload_n 0, 1) := by decide +kernel
theorem dX11_leads_66 : decode cX11_leads 66 = .ok (.iconst 0, 1) := by decide +kernel
theorem dX11_leads_67 : decode cX11_leads 67 = .ok (.putfield 136, 3) := by decide +kernel
theorem dX11_leads_70 : decode cX11_leads 70 = .ok (.aload_n 0, 1) := by decide +kernel
theorem dX11_leads_71 : decode cX11_leads 71 = .ok (.getfield 126, 3) := by decide +kernel
theorem dX11_leads_74 : decode cX11_leads 74 = .ok (.aload_n 0, 1) := by decide +kernel
theorem dX11_leads_75 : decode cX11_leads 75 = .ok (.getfield 118, 3) := by decide +kernel
theorem dX11_leads_78 : decode cX11_leads 78 = .ok (.if_icmp .ne 4, 3) := by decide +kernel
theorem dX11_leads_81 : decode cX11_leads 81 = .ok (.return_, 1) := by decide +kernel
theorem dX11_leads_82 : decode cX11_leads 82 = .ok (.aload_n 0, 1) := by decide +kernel
theorem dX11_leads_83 : decode cX11_leads 83 = .ok (.getfield 9, 3) := by decide +kernel
theorem dX11_leads_86 : decode cX11_leads 86 = .ok (.aload_n 0, 1) := by decide +kernel
theorem dX11_leads_87 : decode cX11_leads 87 = .ok (.getfield 126, 3) := by decide +kernel
theorem dX11_leads_90 : decode cX11_leads 90 = .ok (.baload, 1) := by decide +kernel
theorem dX11_leads_91 : decode cX11_leads 91 = .ok (.istore_n 1, 1) := by decide +kernel
theorem dX11_leads_92 : decode cX11_leads 92 = .ok (.iload_n 1, 1) := by decide +kernel
theorem dX11_leads_93 : decode cX11_leads 93 = .ok (.invokestatic 139, 3) := by decide +kernel
theorem dX11_leads_96 : decode cX11_leads 96 = .ok (.ifCond .eq 105, 3) := by decide +kernel
theorem dX11_leads_99 : decode cX11_leads 99 = .ok (.aload_n 0, 1) := by decide +kernel
theorem dX11_leads_100 : decode cX11_leads 100 = .ok (.getfield 126, 3) := by decide +kernel
theorem dX11_leads_103 : decode cX11_leads 103 = .ok (.aload_n 0, 1) := by decide +kernel
theorem dX11_leads_104 : decode cX11_leads 104 = .ok (.getfield 118, 3) := by decide +kernel
theorem dX11_leads_107 : decode cX11_leads 107 = .ok (.if_icmp .ge 67, 3) := by decide +kernel
theorem dX11_leads_110 : decode cX11_leads 110 = .ok (.aload_n 0, 1) := by decide +kernel
theorem dX11_leads_111 : decode cX11_leads 111 = .ok (.getfield 9, 3) := by decide +kernel
theorem dX11_leads_114 : decode cX11_leads 114 = .ok (.aload_n 0, 1) := by decide +kernel
theorem dX11_leads_115 : decode cX11_leads 115 = .ok (.getfield 126, 3) := by decide +kernel
theorem dX11_leads_118 : decode cX11_leads 118 = .ok (.baload, 1) := by decide +kernel
theorem dX11_leads_119 : decode cX11_leads 119 = .ok (.invokestatic 139, 3) := by decide +kernel
theorem dX11_leads_122 : decode cX11_leads 122 = .ok (.ifCond .eq 52, 3) := by decide +kernel
theorem dX11_leads_125 : decode cX11_leads 125 = .ok (.aload_n 0, 1) := by decide +kernel
theorem dX11_leads_126 : decode cX11_leads 126 = .ok (.getfield 126, 3) := by decide +kernel
theorem dX11_leads_129 : decode cX11_leads 129 = .ok (.aload_n 0, 1) := by decide +kernel
theorem dX11_leads_130 : decode cX11_leads 130 = .ok (.getfield 129, 3) := by decide +kernel
theorem dX11_leads_133 : decode cX11_leads 133 = .ok (.isub, 1) := by decide +kernel
theorem dX11_leads_134 : decode cX11_leads 134 = .ok (.bipush 8, 2) := by decide +kernel
theorem dX11_leads_136 : decode cX11_leads 136 = .ok (.if_icmp .ge 25, 3) := by decide +kernel
theorem dX11_leads_139 : decode cX11_leads 139 = .ok (.aload_n 0, 1) := by decide +kernel
theorem dX11_leads_140 : decode cX11_leads 140 = .ok (.aload_n 0, 1) := by decide +kernel
theorem dX11_leads_141 : decode cX11_leads 141 = .ok (.getfield 132, 3) := by decide +kernel
theorem dX11_leads_144 : decode cX11_leads 144 = .ok (.bipush 8, 2) := by decide +kernel
theorem dX11_leads_146 : decode cX11_leads 146 = .ok (.lshl, 1) := by decide +kernel
theorem dX11_leads_147 : decode cX11_leads 147 = .ok (.aload_n 0, 1) := by decide +kernel
theorem dX11_leads_148 : decode cX11_leads 148 = .ok (.getfield 9, 3) := by decide +kernel
theorem dX11_leads_151 : decode cX11_leads 151 = .ok (.aload_n 0, 1) := by decide +kernel
theorem dX11_leads_152 : decode cX11_leads 152 = .ok (.getfield 126, 3) := by decide +kernel
theorem dX11_leads_155 : decode cX11_leads 155 = .ok (.baload, 1) := by decide +kernel
theorem dX11_leads_156 : decode cX11_leads 156 = .ok (.i2l, 1) := by decide +kernel
theorem dX11_leads_157 : decode cX11_leads 157 = .ok (.lor, 1) := by decide +kernel
theorem dX11_leads_158 : decode cX11_leads 158 = .ok (.putfield 132, 3) := by decide +kernel
theorem dX11_leads_161 : decode cX11_leads 161 = .ok (.aload_n 0, 1) := by decide +kernel
theorem dX11_leads_162 : decode cX11_leads 162 = .ok (.dup, 1) := by decide +kernel
theorem dX11_leads_163 : decode cX11_leads 163 = .ok (.getfield 126, 3) := by decide +kernel
theorem dX11_leads_166 : decode cX11_leads 166 = .ok (.iconst 1, 1) := by decide +kernel
theorem dX11_leads_167 : decode cX11_leads 167 = .ok (.iadd, 1) := by decide +kernel
theorem dX11_leads_168 : decode cX11_leads 168 = .ok (.putfield 126, 3) := by decide +kernel
theorem dX11_leads_171 : decode cX11_leads 171 = .ok (.goto (-72), 3) := by decide +kernel
theorem dX11_leads_174 : decode cX11_leads 174 = .ok (.aload_n 0, 1) := by decide +kernel
theorem dX11_leads_175 : decode cX11_leads 175 = .ok (.getfield 126, 3) := by decide +kernel
theorem dX11_leads_178 : decode cX11_leads 178 = .ok (.aload_n 0, 1) := by decide +kernel
theorem dX11_leads_179 : decode cX11_leads 179 = .ok (.getfield 129, 3) := by decide +kernel
theorem dX11_leads_182 : decode cX11_leads 182 = .ok (.isub, 1) := by decide +kernel
theorem dX11_leads_183 : decode cX11_leads 183 = .ok (.bipush 8, 2) := by decide +kernel
theorem dX11_leads_185 : decode cX11_leads 185 = .ok (.if_icmp .le 8, 3) := by decide +kernel
theorem dX11_leads_188 : decode cX11_leads 188 = .ok (.aload_n 0, 1) := by decide +kernel
theorem dX11_leads_189 : decode cX11_leads 189 = .ok (.lconst 0, 1) := by decide +kernel
theorem dX11_leads_190 : decode cX11_leads 190 = .ok (.putfield 132, 3) := by decide +kernel
theorem dX11_leads_193 : decode cX11_leads 193 = .ok (.aload_n 0, 1) := by decide +kernel
theorem dX11_leads_194 : decode cX11_leads 194 = .ok (.iconst 1, 1) := by decide +kernel
theorem dX11_leads_195 : decode cX11_leads 195 = .ok (.putfield 136, 3) := by decide +kernel
theorem dX11_leads_198 : decode cX11_leads 198 = .ok (.goto 134, 3) := by decide +kernel
theorem dX11_leads_201 : decode cX11_leads 201 = .ok (.iload_n 1, 1) := by decide +kernel
theorem dX11_leads_202 : decode cX11_leads 202 = .ok (.invokestatic 143, 3) := by decide +kernel
theorem dX11_leads_205 : decode cX11_leads 205 = .ok (.ifCond .eq 95, 3) := by decide +kernel
theorem dX11_leads_208 : decode cX11_leads 208 = .ok (.aload_n 0, 1) := by decide +kernel
theorem dX11_leads_209 : decode cX11_leads 209 = .ok (.getfield 126, 3) := by decide +kernel
theorem dX11_leads_212 : decode cX11_leads 212 = .ok (.aload_n 0, 1) := by decide +kernel
theorem dX11_leads_213 : decode cX11_leads 213 = .ok (.getfield 118, 3) := by decide +kernel
theorem dX11_leads_216 : decode cX11_leads 216 = .ok (.if_icmp .ge 76, 3) := by decide +kernel
theorem dX11_leads_219 : decode cX11_leads 219 = .ok (.aload_n 0, 1) := by decide +kernel
theorem dX11_leads_220 : decode cX11_leads 220 = .ok (.getfield 9, 3) := by decide +kernel
theorem dX11_leads_223 : decode cX11_leads 223 = .ok (.aload_n 0, 1) := by decide +kernel
theorem dX11_leads_224 : decode cX11_leads 224 = .ok (.getfield 126, 3) := by decide +kernel
theorem dX11_leads_227 : decode cX11_leads 227 = .ok (.baload, 1) := by decide +kernel
theorem dX11_leads_228 : decode cX11_leads 228 = .ok (.invokestatic 143, 3) := by decide +kernel
theorem dX11_leads_231 : decode cX11_leads 231 = .ok (.ifCond .eq 61, 3) := by decide +kernel
theorem dX11_leads_234 : decode cX11_leads 234 = .ok (.aload_n 0, 1) := by decide +kernel
theorem dX11_leads_235 : decode cX11_leads 235 = .ok (.aload_n 0, 1) := by decide +kernel
theorem dX11_leads_236 : decode cX11_leads 236 = .ok (.getfield 132, 3) := by decide +kernel
theorem dX11_leads_239 : decode cX11_leads 239 = .ok (.ldc2_w 146, 3) := by decide +kernel
theorem dX11_leads_242 : decode cX11_leads 242 = .ok (.lcmp, 1) := by decide +kernel
theorem dX11_leads_243 : decode cX11_leads 243 = .ok (.ifCond .le 10, 3) := by decide +kernel
theorem dX11_leads_246 : decode cX11_leads 246 = .ok (.aload_n 0, 1) := by decide +kernel
theorem dX11_leads_247 : decode cX11_leads 247 = .ok (.getfield 132, 3) := by decide +kernel
theorem dX11_leads_250 : decode cX11_leads 250 = .ok (.goto 26, 3) := by decide +kernel
theorem dX11_leads_253 : decode cX11_leads 253 = .ok (.ldc2_w 148, 3) := by decide +kernel
theorem dX11_leads_256 : decode cX11_leads 256 = .ok (.aload_n 0, 1) := by decide +kernel
theorem dX11_leads_257 : decode cX11_leads 257 = .ok (.getfield 132, 3) := by decide +kernel
theorem dX11_leads_260 : decode cX11_leads 260 = .ok (.lmul, 1) := by decide +kernel
theorem dX11_leads_261 : decode cX11_leads 261 = .ok (.aload_n 0, 1) := by decide +kernel
theorem dX11_leads_262 : decode cX11_leads 262 = .ok (.getfield 9, 3) := by decide +kernel
theorem dX11_leads_265 : decode cX11_leads 265 = .ok (.aload_n 0, 1) := by decide +kernel
theorem dX11_leads_266 : decode cX11_leads 266 = .ok (.getfield 126, 3) := by decide +kernel
theorem dX11_leads_269 : decode cX11_leads 269 = .ok (.baload, 1) := by decide +kernel
theorem dX11_leads_270 : decode cX11_leads 270 = .ok (.i2l, 1) := by decide +kernel
theorem dX11_leads_271 : decode cX11_leads 271 = .ok (.ladd, 1) := by decide +kernel
theorem dX11_leads_272 : decode cX11_leads 272 = .ok (.ldc2_w 150, 3) := by decide +kernel
theorem dX11_leads_275 : decode cX11_leads 275 = .ok (.lsub, 1) := by decide +kernel
theorem dX11_leads_276 : decode cX11_leads 276 = .ok (.putfield 132, 3) := by decide +kernel
theorem dX11_leads_279 : decode cX11_leads 279 = .ok (.aload_n 0, 1) := by decide +kernel
theorem dX11_leads_280 : decode cX11_leads 280 = .ok (.dup, 1) := by decide +kernel
theorem dX11_leads_281 : decode cX11_leads 281 = .ok (.getfield 126, 3) := by decide +kernel
theorem dX11_leads_284 : decode cX11_leads 284 = .ok (.iconst 1, 1) := by decide +kernel
theorem dX11_leads_285 : decode cX11_leads 285 = .ok (.iadd, 1) := by decide +kernel
theorem dX11_leads_286 : decode cX11_leads 286 = .ok (.putfield 126, 3) := by decide +kernel
theorem dX11_leads_289 : decode cX11_leads 289 = .ok (.goto (-81), 3) := by decide +kernel
theorem dX11_leads_292 : decode cX11_leads 292 = .ok (.aload_n 0, 1) := by decide +kernel
theorem dX11_leads_293 : decode cX11_leads 293 = .ok (.iconst 2, 1) := by decide +kernel
theorem dX11_leads_294 : decode cX11_leads 294 = .ok (.putfield 136, 3) := by decide +kernel
theorem dX11_leads_297 : decode cX11_leads 297 = .ok (.goto 35, 3) := by decide +kernel
theorem dX11_leads_300 : decode cX11_leads 300 = .ok (.aload_n 0, 1) := by decide +kernel
theorem dX11_leads_301 : decode cX11_leads 301 = .ok (.iload_n 1, 1) := by decide +kernel
theorem dX11_leads_302 : decode cX11_leads 302 = .ok (.invokestatic 152, 3) := by decide +kernel
theorem dX11_leads_305 : decode cX11_leads 305 = .ok (.ifCond .eq 7, 3) := by decide +kernel
theorem dX11_leads_308 : decode cX11_leads 308 = .ok (.iconst 3, 1) := by decide +kernel
theorem dX11_leads_309 : decode cX11_leads 309 = .ok (.goto 4, 3) := by decide +kernel
theorem dX11_leads_312 : decode cX11_leads 312 = .ok (.iconst 4, 1) := by decide +kernel
theorem dX11_leads_313 : decode cX11_leads 313 = .ok (.putfield 136, 3) := by decide +kernel
theorem dX11_leads_316 : decode cX11_leads 316 = .ok (.aload_n 0, 1) := by decide +kernel
theorem dX11_leads_317 : decode cX11_leads 317 = .ok (.iload_n 1, 1) := by decide +kernel
theorem dX11_leads_318 : decode cX11_leads 318 = .ok (.i2l, 1) := by decide +kernel
theorem dX11_leads_319 : decode cX11_leads 319 = .ok (.putfield 132, 3) := by decide +kernel
theorem dX11_leads_322 : decode cX11_leads 322 = .ok (.aload_n 0, 1) := by decide +kernel
theorem dX11_leads_323 : decode cX11_leads 323 = .ok (.dup, 1) := by decide +kernel
theorem dX11_leads_324 : decode cX11_leads 324 = .ok (.getfield 126, 3) := by decide +kernel
theorem dX11_leads_327 : decode cX11_leads 327 = .ok (.iconst 1, 1) := by decide +kernel
theorem dX11_leads_328 : decode cX11_leads 328 = .ok (.iadd, 1) := by decide +kernel
theorem dX11_leads_329 : decode cX11_leads 329 = .ok (.putfield 126, 3) := by decide +kernel
theorem dX11_leads_332 : decode cX11_leads 332 = .ok (.return_, 1) := by decide +kernel
theorem dX11_packed_0 : decode cX11_packed 0 = .ok (.lconst 0, 1) := by decide +kernel
theorem dX11_packed_1 : decode cX11_packed 1 = .ok (.lstore_n 1, 1) := by decide +kernel
theorem dX11_packed_2 : decode cX11_packed 2 = .ok (.iconst 0, 1) := by decide +kernel
theorem dX11_packed_3 : decode cX11_packed 3 = .ok (.istore_n 3, 1) := by decide +kernel
theorem dX11_packed_4 : decode cX11_packed 4 = .ok (.iload_n 3, 1) := by decide +kernel
theorem dX11_packed_5 : decode cX11_packed 5 = .ok (.aload_n 0, 1) := by decide +kernel
theorem dX11_packed_6 : decode cX11_packed 6 = .ok (.invokevirtual 155, 3) := by decide +kernel
theorem dX11_packed_9 : decode cX11_packed 9 = .ok (.if_icmp .ge 21, 3) := by decide +kernel
theorem dX11_packed_12 : decode cX11_packed 12 = .ok (.lload_n 1, 1) := by decide +kernel
theorem dX11_packed_13 : decode cX11_packed 13 = .ok (.bipush 8, 2) := by decide +kernel
theorem dX11_packed_15 : decode cX11_packed 15 = .ok (.lshl, 1) := by decide +kernel
theorem dX11_packed_16 : decode cX11_packed 16 = .ok (.aload_n 0, 1) := by decide +kernel
theorem dX11_packed_17 : decode cX11_packed 17 = .ok (.iload_n 3, 1) := by decide +kernel
theorem dX11_packed_18 : decode cX11_packed 18 = .ok (.invokevirtual 161, 3) := by decide +kernel
theorem dX11_packed_21 : decode cX11_packed 21 = .ok (.i2l, 1) := by decide +kernel
theorem dX11_packed_22 : decode cX11_packed 22 = .ok (.lor, 1) := by decide +kernel
theorem dX11_packed_23 : decode cX11_packed 23 = .ok (.lstore_n 1, 1) := by decide +kernel
theorem dX11_packed_24 : decode cX11_packed 24 = .ok (.iinc 3 1, 3) := by decide +kernel
theorem dX11_packed_27 : decode cX11_packed 27 = .ok (.goto (-23), 3) := by decide +kernel
theorem dX11_packed_30 : decode cX11_packed 30 = .ok (.lload_n 1, 1) := by decide +kernel
theorem dX11_packed_31 : decode cX11_packed 31 = .ok (.lreturn, 1) := by decide +kernel
theorem dX11_isWord_0 : decode cX11_isWord 0 = .ok (.aload_n 0, 1) := by decide +kernel
theorem dX11_isWord_1 : decode cX11_isWord 1 = .ok (.getfield 136, 3) := by decide +kernel
theorem dX11_isWord_4 : decode cX11_isWord 4 = .ok (.iconst 1, 1) := by decide +kernel
theorem dX11_isWord_5 : decode cX11_isWord 5 = .ok (.if_icmp .ne 19, 3) := by decide +kernel
theorem dX11_isWord_8 : decode cX11_isWord 8 = .ok (.aload_n 0, 1) := by decide +kernel
theorem dX11_isWord_9 : decode cX11_isWord 9 = .ok (.getfield 132, 3) := by decide +kernel
theorem dX11_isWord_12 : decode cX11_isWord 12 = .ok (.aload_n 1, 1) := by decide +kernel
theorem dX11_isWord_13 : decode cX11_isWord 13 = .ok (.invokestatic 165, 3) := by decide +kernel
theorem dX11_isWord_16 : decode cX11_isWord 16 = .ok (.lcmp, 1) := by decide +kernel
theorem dX11_isWord_17 : decode cX11_isWord 17 = .ok (.ifCond .ne 7, 3) := by decide +kernel
theorem dX11_isWord_20 : decode cX11_isWord 20 = .ok (.iconst 1, 1) := by decide +kernel
theorem dX11_isWord_21 : decode cX11_isWord 21 = .ok (.goto 4, 3) := by decide +kernel
theorem dX11_isWord_24 : decode cX11_isWord 24 = .ok (.iconst 0, 1) := by decide +kernel
theorem dX11_isWord_25 : decode cX11_isWord 25 = .ok (.ireturn, 1) := by decide +kernel
theorem dX11_isSign_0 : decode cX11_isSign 0 = .ok (.aload_n 0, 1) := by decide +kernel
theorem dX11_isSign_1 : decode cX11_isSign 1 = .ok (.getfield 136, 3) := by decide +kernel
theorem dX11_isSign_4 : decode cX11_isSign 4 = .ok (.iconst 3, 1) := by decide +kernel
theorem dX11_isSign_5 : decode cX11_isSign 5 = .ok (.if_icmp .ne 17, 3) := by decide +kernel
theorem dX11_isSign_8 : decode cX11_isSign 8 = .ok (.aload_n 0, 1) := by decide +kernel
theorem dX11_isSign_9 : decode cX11_isSign 9 = .ok (.getfield 132, 3) := by decide +kernel
theorem dX11_isSign_12 : decode cX11_isSign 12 = .ok (.iload_n 1, 1) := by decide +kernel
theorem dX11_isSign_13 : decode cX11_isSign 13 = .ok (.i2l, 1) := by decide +kernel
theorem dX11_isSign_14 : decode cX11_isSign 14 = .ok (.lcmp, 1) := by decide +kernel
theorem dX11_isSign_15 : decode cX11_isSign 15 = .ok (.ifCond .ne 7, 3) := by decide +kernel
theorem dX11_isSign_18 : decode cX11_isSign 18 = .ok (.iconst 1, 1) := by decide +kernel
theorem dX11_isSign_19 : decode cX11_isSign 19 = .ok (.goto 4, 3) := by decide +kernel
theorem dX11_isSign_22 : decode cX11_isSign 22 = .ok (.iconst 0, 1) := by decide +kernel
theorem dX11_isSign_23 : decode cX11_isSign 23 = .ok (.ireturn, 1) := by decide +kernel
theorem dX11_number_0 : decode cX11_number 0 = .ok (.aload_n 0, 1) := by decide +kernel
theorem dX11_number_1 : decode cX11_number 1 = .ok (.getfield 136, 3) := by decide +kernel
theorem dX11_number_4 : decode cX11_number 4 = .ok (.iconst 2, 1) := by decide +kernel
theorem dX11_number_5 : decode cX11_number 5 = .ok (.if_icmp .ne 23, 3) := by decide +kernel
theorem dX11_number_8 : decode cX11_number 8 = .ok (.aload_n 0, 1) := by decide +kernel
theorem dX11_number_9 : decode cX11_number 9 = .ok (.getfield 132, 3) := by decide +kernel
theorem dX11_number_12 : decode cX11_number 12 = .ok (.iload_n 1, 1) := by decide +kernel
theorem dX11_number_13 : decode cX11_number 13 = .ok (.i2l, 1) := by decide +kernel
theorem dX11_number_14 : decode cX11_number 14 = .ok (.lcmp, 1) := by decide +kernel
theorem dX11_number_15 : decode cX11_number 15 = .ok (.ifCond .lt 13, 3) := by decide +kernel
theorem dX11_number_18 : decode cX11_number 18 = .ok (.aload_n 0, 1) := by decide +kernel
theorem dX11_number_19 : decode cX11_number 19 = .ok (.getfield 132, 3) := by decide +kernel
theorem dX11_number_22 : decode cX11_number 22 = .ok (.iload_n 2, 1) := by decide +kernel
theorem dX11_number_23 : decode cX11_number 23 = .ok (.i2l, 1) := by decide +kernel
theorem dX11_number_24 : decode cX11_number 24 = .ok (.lcmp, 1) := by decide +kernel
theorem dX11_number_25 : decode cX11_number 25 = .ok (.ifCond .le 5, 3) := by decide +kernel
theorem dX11_number_28 : decode cX11_number 28 = .ok (.iconst 0, 1) := by decide +kernel
theorem dX11_number_29 : decode cX11_number 29 = .ok (.ireturn, 1) := by decide +kernel
theorem dX11_number_30 : decode cX11_number 30 = .ok (.aload_n 0, 1) := by decide +kernel
theorem dX11_number_31 : decode cX11_number 31 = .ok (.aload_n 0, 1) := by decide +kernel
theorem dX11_number_32 : decode cX11_number 32 = .ok (.getfield 132, 3) := by decide +kernel
theorem dX11_number_35 : decode cX11_number 35 = .ok (.l2i, 1) := by decide +kernel
theorem dX11_number_36 : decode cX11_number 36 = .ok (.putfield 169, 3) := by decide +kernel
theorem dX11_number_39 : decode cX11_number 39 = .ok (.aload_n 0, 1) := by decide +kernel
theorem dX11_number_40 : decode cX11_number 40 = .ok (.invokevirtual 172, 3) := by decide +kernel
theorem dX11_number_43 : decode cX11_number 43 = .ok (.iconst 1, 1) := by decide +kernel
theorem dX11_number_44 : decode cX11_number 44 = .ok (.ireturn, 1) := by decide +kernel
theorem dX11_ends_0 : decode cX11_ends 0 = .ok (.aload_n 0, 1) := by decide +kernel
theorem dX11_ends_1 : decode cX11_ends 1 = .ok (.bipush 59, 2) := by decide +kernel
theorem dX11_ends_3 : decode cX11_ends 3 = .ok (.invokevirtual 175, 3) := by decide +kernel
theorem dX11_ends_6 : decode cX11_ends 6 = .ok (.ifCond .ne 5, 3) := by decide +kernel
theorem dX11_ends_9 : decode cX11_ends 9 = .ok (.iconst 0, 1) := by decide +kernel
theorem dX11_ends_10 : decode cX11_ends 10 = .ok (.ireturn, 1) := by decide +kernel
theorem dX11_ends_11 : decode cX11_ends 11 = .ok (.aload_n 0, 1) := by decide +kernel
theorem dX11_ends_12 : decode cX11_ends 12 = .ok (.invokevirtual 172, 3) := by decide +kernel
theorem dX11_ends_15 : decode cX11_ends 15 = .ok (.iconst 1, 1) := by decide +kernel
theorem dX11_ends_16 : decode cX11_ends 16 = .ok (.ireturn, 1) := by decide +kernel
theorem dX11_counterLine_0 : decode cX11_counterLine 0 = .ok (.aload_n 0, 1) := by decide +kernel
theorem dX11_counterLine_1 : decode cX11_counterLine 1 = .ok (.getfield 178, 3) := by decide +kernel
theorem dX11_counterLine_4 : decode cX11_counterLine 4 = .ok (.iconst 3, 1) := by decide +kernel
theorem dX11_counterLine_5 : decode cX11_counterLine 5 = .ok (.if_icmp .ne 5, 3) := by decide +kernel
theorem dX11_counterLine_8 : decode cX11_counterLine 8 = .ok (.iconst 0, 1) := by decide +kernel
theorem dX11_counterLine_9 : decode cX11_counterLine 9 = .ok (.ireturn, 1) := by decide +kernel
theorem dX11_counterLine_10 : decode cX11_counterLine 10 = .ok (.aload_n 0, 1) := by decide +kernel
theorem dX11_counterLine_11 : decode cX11_counterLine 11 = .ok (.invokevirtual 172, 3) := by decide +kernel
theorem dX11_counterLine_14 : decode cX11_counterLine 14 = .ok (.iconst 0, 1) := by decide +kernel
theorem dX11_counterLine_15 : decode cX11_counterLine 15 = .ok (.istore_n 1, 1) := by decide +kernel
theorem dX11_counterLine_16 : decode cX11_counterLine 16 = .ok (.iload_n 1, 1) := by decide +kernel
theorem dX11_counterLine_17 : decode cX11_counterLine 17 = .ok (.iconst 3, 1) := by decide +kernel
theorem dX11_counterLine_18 : decode cX11_counterLine 18 = .ok (.if_icmp .ge 66, 3) := by decide +kernel
theorem dX11_counterLine_21 : decode cX11_counterLine 21 = .ok (.aload_n 0, 1) := by decide +kernel
theorem dX11_counterLine_22 : decode cX11_counterLine 22 = .ok (.iload_n 1, 1) := by decide +kernel
theorem dX11_counterLine_23 : decode cX11_counterLine 23 = .ok (.iconst 1, 1) := by decide +kernel
theorem dX11_counterLine_24 : decode cX11_counterLine 24 = .ok (.if_icmp .ne 7, 3) := by decide +kernel
theorem dX11_counterLine_27 : decode cX11_counterLine 27 = .ok (.iconst 1, 1) := by decide +kernel
theorem dX11_counterLine_28 : decode cX11_counterLine 28 = .ok (.goto 4, 3) := by decide +kernel
theorem dX11_counterLine_31 : decode cX11_counterLine 31 = .ok (.iconst 0, 1) := by decide +kernel
theorem dX11_counterLine_32 : decode cX11_counterLine 32 = .ok (.iload_n 1, 1) := by decide +kernel
theorem dX11_counterLine_33 : decode cX11_counterLine 33 = .ok (.ifCond .ne 8, 3) := by decide +kernel
theorem dX11_counterLine_36 : decode cX11_counterLine 36 = .ok (.bipush 8, 2) := by decide +kernel
theorem dX11_counterLine_38 : decode cX11_counterLine 38 = .ok (.goto 15, 3) := by decide +kernel
theorem dX11_counterLine_41 : decode cX11_counterLine 41 = .ok (.iload_n 1, 1) := by decide +kernel
theorem dX11_counterLine_42 : decode cX11_counterLine 42 = .ok (.iconst 1, 1) := by decide +kernel
theorem dX11_counterLine_43 : decode cX11_counterLine 43 = .ok (.if_icmp .ne 8, 3) := by decide +kernel
theorem dX11_counterLine_46 : decode cX11_counterLine 46 = .ok (.bipush 9, 2) := by decide +kernel
theorem dX11_counterLine_48 : decode cX11_counterLine 48 = .ok (.goto 5, 3) := by decide +kernel
theorem dX11_counterLine_51 : decode cX11_counterLine 51 = .ok (.bipush 99, 2) := by decide +kernel
theorem dX11_counterLine_53 : decode cX11_counterLine 53 = .ok (.invokevirtual 181, 3) := by decide +kernel
theorem dX11_counterLine_56 : decode cX11_counterLine 56 = .ok (.ifCond .ne 5, 3) := by decide +kernel
theorem dX11_counterLine_59 : decode cX11_counterLine 59 = .ok (.iconst 0, 1) := by decide +kernel
theorem dX11_counterLine_60 : decode cX11_counterLine 60 = .ok (.ireturn, 1) := by decide +kernel
theorem dX11_counterLine_61 : decode cX11_counterLine 61 = .ok (.aload_n 0, 1) := by decide +kernel
theorem dX11_counterLine_62 : decode cX11_counterLine 62 = .ok (.getfield 13, 3) := by decide +kernel
theorem dX11_counterLine_65 : decode cX11_counterLine 65 = .ok (.iconst 3, 1) := by decide +kernel
theorem dX11_counterLine_66 : decode cX11_counterLine 66 = .ok (.aload_n 0, 1) := by decide +kernel
theorem dX11_counterLine_67 : decode cX11_counterLine 67 = .ok (.getfield 178, 3) := by decide +kernel
theorem dX11_counterLine_70 : decode cX11_counterLine 70 = .ok (.imul, 1) := by decide +kernel
theorem dX11_counterLine_71 : decode cX11_counterLine 71 = .ok (.iload_n 1, 1) := by decide +kernel
theorem dX11_counterLine_72 : decode cX11_counterLine 72 = .ok (.iadd, 1) := by decide +kernel
theorem dX11_counterLine_73 : decode cX11_counterLine 73 = .ok (.aload_n 0, 1) := by decide +kernel
theorem dX11_counterLine_74 : decode cX11_counterLine 74 = .ok (.getfield 169, 3) := by decide +kernel
theorem dX11_counterLine_77 : decode cX11_counterLine 77 = .ok (.iastore, 1) := by decide +kernel
theorem dX11_counterLine_78 : decode cX11_counterLine 78 = .ok (.iinc 1 1, 3) := by decide +kernel
theorem dX11_counterLine_81 : decode cX11_counterLine 81 = .ok (.goto (-65), 3) := by decide +kernel
theorem dX11_counterLine_84 : decode cX11_counterLine 84 = .ok (.aload_n 0, 1) := by decide +kernel
theorem dX11_counterLine_85 : decode cX11_counterLine 85 = .ok (.dup, 1) := by decide +kernel
theorem dX11_counterLine_86 : decode cX11_counterLine 86 = .ok (.getfield 178, 3) := by decide +kernel
theorem dX11_counterLine_89 : decode cX11_counterLine 89 = .ok (.iconst 1, 1) := by decide +kernel
theorem dX11_counterLine_90 : decode cX11_counterLine 90 = .ok (.iadd, 1) := by decide +kernel
theorem dX11_counterLine_91 : decode cX11_counterLine 91 = .ok (.putfield 178, 3) := by decide +kernel
theorem dX11_counterLine_94 : decode cX11_counterLine 94 = .ok (.aload_n 0, 1) := by decide +kernel
theorem dX11_counterLine_95 : decode cX11_counterLine 95 = .ok (.invokevirtual 185, 3) := by decide +kernel
theorem dX11_counterLine_98 : decode cX11_counterLine 98 = .ok (.ireturn, 1) := by decide +kernel
theorem dX11_mostOf_0 : decode cX11_mostOf 0 = .ok (.iload_n 0, 1) := by decide +kernel
theorem dX11_mostOf_1 : decode cX11_mostOf 1 = .ok (.ifCond .ne 8, 3) := by decide +kernel
theorem dX11_mostOf_4 : decode cX11_mostOf 4 = .ok (.bipush 16, 2) := by decide +kernel
theorem dX11_mostOf_6 : decode cX11_mostOf 6 = .ok (.goto 35, 3) := by decide +kernel
theorem dX11_mostOf_9 : decode cX11_mostOf 9 = .ok (.iload_n 0, 1) := by decide +kernel
theorem dX11_mostOf_10 : decode cX11_mostOf 10 = .ok (.iconst 1, 1) := by decide +kernel
theorem dX11_mostOf_11 : decode cX11_mostOf 11 = .ok (.if_icmp .ne 8, 3) := by decide +kernel
theorem dX11_mostOf_14 : decode cX11_mostOf 14 = .ok (.bipush 99, 2) := by decide +kernel
theorem dX11_mostOf_16 : decode cX11_mostOf 16 = .ok (.goto 25, 3) := by decide +kernel
theorem dX11_mostOf_19 : decode cX11_mostOf 19 = .ok (.iload_n 0, 1) := by decide +kernel
theorem dX11_mostOf_20 : decode cX11_mostOf 20 = .ok (.iconst 2, 1) := by decide +kernel
theorem dX11_mostOf_21 : decode cX11_mostOf 21 = .ok (.if_icmp .ne 9, 3) := by decide +kernel
theorem dX11_mostOf_24 : decode cX11_mostOf 24 = .ok (.sipush 240, 3) := by decide +kernel
theorem dX11_mostOf_27 : decode cX11_mostOf 27 = .ok (.goto 14, 3) := by decide +kernel
theorem dX11_mostOf_30 : decode cX11_mostOf 30 = .ok (.iload_n 0, 1) := by decide +kernel
theorem dX11_mostOf_31 : decode cX11_mostOf 31 = .ok (.iconst 5, 1) := by decide +kernel
theorem dX11_mostOf_32 : decode cX11_mostOf 32 = .ok (.if_icmp .ne 7, 3) := by decide +kernel
theorem dX11_mostOf_35 : decode cX11_mostOf 35 = .ok (.iconst 2, 1) := by decide +kernel
theorem dX11_mostOf_36 : decode cX11_mostOf 36 = .ok (.goto 5, 3) := by decide +kernel
theorem dX11_mostOf_39 : decode cX11_mostOf 39 = .ok (.bipush 9, 2) := by decide +kernel
theorem dX11_mostOf_41 : decode cX11_mostOf 41 = .ok (.ireturn, 1) := by decide +kernel
theorem dX11_sortLine_0 : decode cX11_sortLine 0 = .ok (.aload_n 0, 1) := by decide +kernel
theorem dX11_sortLine_1 : decode cX11_sortLine 1 = .ok (.getfield 189, 3) := by decide +kernel
theorem dX11_sortLine_4 : decode cX11_sortLine 4 = .ok (.iconst 5, 1) := by decide +kernel
theorem dX11_sortLine_5 : decode cX11_sortLine 5 = .ok (.if_icmp .ne 5, 3) := by decide +kernel
theorem dX11_sortLine_8 : decode cX11_sortLine 8 = .ok (.iconst 0, 1) := by decide +kernel
theorem dX11_sortLine_9 : decode cX11_sortLine 9 = .ok (.ireturn, 1) := by decide +kernel
theorem dX11_sortLine_10 : decode cX11_sortLine 10 = .ok (.aload_n 0, 1) := by decide +kernel
theorem dX11_sortLine_11 : decode cX11_sortLine 11 = .ok (.invokevirtual 172, 3) := by decide +kernel
theorem dX11_sortLine_14 : decode cX11_sortLine 14 = .ok (.aload_n 0, 1) := by decide +kernel
theorem dX11_sortLine_15 : decode cX11_sortLine 15 = .ok (.getfield 136, 3) := by decide +kernel
theorem dX11_sortLine_18 : decode cX11_sortLine 18 = .ok (.iconst 1, 1) := by decide +kernel
theorem dX11_sortLine_19 : decode cX11_sortLine 19 = .ok (.if_icmp .ne 61, 3) := by decide +kernel
theorem dX11_sortLine_22 : decode cX11_sortLine 22 = .ok (.aload_n 0, 1) := by decide +kernel
theorem dX11_sortLine_23 : decode cX11_sortLine 23 = .ok (.getfield 132, 3) := by decide +kernel
theorem dX11_sortLine_26 : decode cX11_sortLine 26 = .ok (.lconst 0, 1) := by decide +kernel
theorem dX11_sortLine_27 : decode cX11_sortLine 27 = .ok (.lcmp, 1) := by decide +kernel
theorem dX11_sortLine_28 : decode cX11_sortLine 28 = .ok (.ifCond .eq 52, 3) := by decide +kernel
theorem dX11_sortLine_31 : decode cX11_sortLine 31 = .ok (.aload_n 0, 1) := by decide +kernel
theorem dX11_sortLine_32 : decode cX11_sortLine 32 = .ok (.ldc 192, 2) := by decide +kernel
theorem dX11_sortLine_34 : decode cX11_sortLine 34 = .ok (.invokevirtual 194, 3) := by decide +kernel
theorem dX11_sortLine_37 : decode cX11_sortLine 37 = .ok (.ifCond .ne 43, 3) := by decide +kernel
theorem dX11_sortLine_40 : decode cX11_sortLine 40 = .ok (.aload_n 0, 1) := by decide +kernel
theorem dX11_sortLine_41 : decode cX11_sortLine 41 = .ok (.ldc 198, 2) := by decide +kernel
theorem dX11_sortLine_43 : decode cX11_sortLine 43 = .ok (.invokevirtual 194, 3) := by decide +kernel
theorem dX11_sortLine_46 : decode cX11_sortLine 46 = .ok (.ifCond .ne 34, 3) := by decide +kernel
theorem dX11_sortLine_49 : decode cX11_sortLine 49 = .ok (.aload_n 0, 1) := by decide +kernel
theorem dX11_sortLine_50 : decode cX11_sortLine 50 = .ok (.ldc 200, 2) := by decide +kernel
theorem dX11_sortLine_52 : decode cX11_sortLine 52 = .ok (.invokevirtual 194, 3) := by decide +kernel
theorem dX11_sortLine_55 : decode cX11_sortLine 55 = .ok (.ifCond .ne 25, 3) := by decide +kernel
theorem dX11_sortLine_58 : decode cX11_sortLine 58 = .ok (.aload_n 0, 1) := by decide +kernel
theorem dX11_sortLine_59 : decode cX11_sortLine 59 = .ok (.ldc 202, 2) := by decide +kernel
theorem dX11_sortLine_61 : decode cX11_sortLine 61 = .ok (.invokevirtual 194, 3) := by decide +kernel
theorem dX11_sortLine_64 : decode cX11_sortLine 64 = .ok (.ifCond .ne 16, 3) := by decide +kernel
theorem dX11_sortLine_67 : decode cX11_sortLine 67 = .ok (.aload_n 0, 1) := by decide +kernel
theorem dX11_sortLine_68 : decode cX11_sortLine 68 = .ok (.ldc 204, 2) := by decide +kernel
theorem dX11_sortLine_70 : decode cX11_sortLine 70 = .ok (.invokevirtual 194, 3) := by decide +kernel
theorem dX11_sortLine_73 : decode cX11_sortLine 73 = .ok (.ifCond .ne 7, 3) := by decide +kernel
theorem dX11_sortLine_76 : decode cX11_sortLine 76 = .ok (.iconst 1, 1) := by decide +kernel
theorem dX11_sortLine_77 : decode cX11_sortLine 77 = .ok (.goto 4, 3) := by decide +kernel
theorem dX11_sortLine_80 : decode cX11_sortLine 80 = .ok (.iconst 0, 1) := by decide +kernel
theorem dX11_sortLine_81 : decode cX11_sortLine 81 = .ok (.istore_n 1, 1) := by decide +kernel
theorem dX11_sortLine_82 : decode cX11_sortLine 82 = .ok (.iconst 0, 1) := by decide +kernel
theorem dX11_sortLine_83 : decode cX11_sortLine 83 = .ok (.istore_n 2, 1) := by decide +kernel
theorem dX11_sortLine_84 : decode cX11_sortLine 84 = .ok (.iload_n 2, 1) := by decide +kernel
theorem dX11_sortLine_85 : decode cX11_sortLine 85 = .ok (.aload_n 0, 1) := by decide +kernel
theorem dX11_sortLine_86 : decode cX11_sortLine 86 = .ok (.getfield 189, 3) := by decide +kernel
theorem dX11_sortLine_89 : decode cX11_sortLine 89 = .ok (.if_icmp .ge 33, 3) := by decide +kernel
theorem dX11_sortLine_92 : decode cX11_sortLine 92 = .ok (.iload_n 1, 1) := by decide +kernel
theorem dX11_sortLine_93 : decode cX11_sortLine 93 = .ok (.ifCond .eq 21, 3) := by decide +kernel
theorem dX11_sortLine_96 : decode cX11_sortLine 96 = .ok (.aload_n 0, 1) := by decide +kernel
theorem dX11_sortLine_97 : decode cX11_sortLine 97 = .ok (.getfield 17, 3) := by decide +kernel
theorem dX11_sortLine_100 : decode cX11_sortLine 100 = .ok (.iload_n 2, 1) := by decide +kernel
theorem dX11_sortLine_101 : decode cX11_sortLine 101 = .ok (.laload, 1) := by decide +kernel
theorem dX11_sortLine_102 : decode cX11_sortLine 102 = .ok (.aload_n 0, 1) := by decide +kernel
theorem dX11_sortLine_103 : decode cX11_sortLine 103 = .ok (.getfield 132, 3) := by decide +kernel
theorem dX11_sortLine_106 : decode cX11_sortLine 106 = .ok (.lcmp, 1) := by decide +kernel
theorem dX11_sortLine_107 : decode cX11_sortLine 107 = .ok (.ifCond .eq 7, 3) := by decide +kernel
theorem dX11_sortLine_110 : decode cX11_sortLine 110 = .ok (.iconst 1, 1) := by decide +kernel
theorem dX11_sortLine_111 : decode cX11_sortLine 111 = .ok (.goto 4, 3) := by decide +kernel
theorem dX11_sortLine_114 : decode cX11_sortLine 114 = .ok (.iconst 0, 1) := by decide +kernel
theorem dX11_sortLine_115 : decode cX11_sortLine 115 = .ok (.istore_n 1, 1) := by decide +kernel
theorem dX11_sortLine_116 : decode cX11_sortLine 116 = .ok (.iinc 2 1, 3) := by decide +kernel
theorem dX11_sortLine_119 : decode cX11_sortLine 119 = .ok (.goto (-35), 3) := by decide +kernel
theorem dX11_sortLine_122 : decode cX11_sortLine 122 = .ok (.iload_n 1, 1) := by decide +kernel
theorem dX11_sortLine_123 : decode cX11_sortLine 123 = .ok (.ifCond .ne 5, 3) := by decide +kernel
theorem dX11_sortLine_126 : decode cX11_sortLine 126 = .ok (.iconst 0, 1) := by decide +kernel
theorem dX11_sortLine_127 : decode cX11_sortLine 127 = .ok (.ireturn, 1) := by decide +kernel
theorem dX11_sortLine_128 : decode cX11_sortLine 128 = .ok (.aload_n 0, 1) := by decide +kernel
theorem dX11_sortLine_129 : decode cX11_sortLine 129 = .ok (.getfield 17, 3) := by decide +kernel
theorem dX11_sortLine_132 : decode cX11_sortLine 132 = .ok (.aload_n 0, 1) := by decide +kernel
theorem dX11_sortLine_133 : decode cX11_sortLine 133 = .ok (.getfield 189, 3) := by decide +kernel
theorem dX11_sortLine_136 : decode cX11_sortLine 136 = .ok (.aload_n 0, 1) := by decide +kernel
theorem dX11_sortLine_137 : decode cX11_sortLine 137 = .ok (.getfield 132, 3) := by decide +kernel
theorem dX11_sortLine_140 : decode cX11_sortLine 140 = .ok (.lastore, 1) := by decide +kernel
theorem dX11_sortLine_141 : decode cX11_sortLine 141 = .ok (.aload_n 0, 1) := by decide +kernel
theorem dX11_sortLine_142 : decode cX11_sortLine 142 = .ok (.invokevirtual 172, 3) := by decide +kernel
theorem dX11_sortLine_145 : decode cX11_sortLine 145 = .ok (.iconst 0, 1) := by decide +kernel
theorem dX11_sortLine_146 : decode cX11_sortLine 146 = .ok (.istore_n 2, 1) := by decide +kernel
theorem dX11_sortLine_147 : decode cX11_sortLine 147 = .ok (.iload_n 2, 1) := by decide +kernel
theorem dX11_sortLine_148 : decode cX11_sortLine 148 = .ok (.bipush 6, 2) := by decide +kernel
theorem dX11_sortLine_150 : decode cX11_sortLine 150 = .ok (.if_icmp .ge 50, 3) := by decide +kernel
theorem dX11_sortLine_153 : decode cX11_sortLine 153 = .ok (.aload_n 0, 1) := by decide +kernel
theorem dX11_sortLine_154 : decode cX11_sortLine 154 = .ok (.iload_n 2, 1) := by decide +kernel
theorem dX11_sortLine_155 : decode cX11_sortLine 155 = .ok (.iconst 2, 1) := by decide +kernel
theorem dX11_sortLine_156 : decode cX11_sortLine 156 = .ok (.if_icmp .ne 7, 3) := by decide +kernel
theorem dX11_sortLine_159 : decode cX11_sortLine 159 = .ok (.iconst 1, 1) := by decide +kernel
theorem dX11_sortLine_160 : decode cX11_sortLine 160 = .ok (.goto 4, 3) := by decide +kernel
theorem dX11_sortLine_163 : decode cX11_sortLine 163 = .ok (.iconst 0, 1) := by decide +kernel
theorem dX11_sortLine_164 : decode cX11_sortLine 164 = .ok (.iload_n 2, 1) := by decide +kernel
theorem dX11_sortLine_165 : decode cX11_sortLine 165 = .ok (.invokestatic 206, 3) := by decide +kernel
theorem dX11_sortLine_168 : decode cX11_sortLine 168 = .ok (.invokevirtual 181, 3) := by decide +kernel
theorem dX11_sortLine_171 : decode cX11_sortLine 171 = .ok (.ifCond .ne 5, 3) := by decide +kernel
theorem dX11_sortLine_174 : decode cX11_sortLine 174 = .ok (.iconst 0, 1) := by decide +kernel
theorem dX11_sortLine_175 : decode cX11_sortLine 175 = .ok (.ireturn, 1) := by decide +kernel
theorem dX11_sortLine_176 : decode cX11_sortLine 176 = .ok (.aload_n 0, 1) := by decide +kernel
theorem dX11_sortLine_177 : decode cX11_sortLine 177 = .ok (.getfield 21, 3) := by decide +kernel
theorem dX11_sortLine_180 : decode cX11_sortLine 180 = .ok (.bipush 6, 2) := by decide +kernel
theorem dX11_sortLine_182 : decode cX11_sortLine 182 = .ok (.aload_n 0, 1) := by decide +kernel
theorem dX11_sortLine_183 : decode cX11_sortLine 183 = .ok (.getfield 189, 3) := by decide +kernel
theorem dX11_sortLine_186 : decode cX11_sortLine 186 = .ok (.imul, 1) := by decide +kernel
theorem dX11_sortLine_187 : decode cX11_sortLine 187 = .ok (.iload_n 2, 1) := by decide +kernel
theorem dX11_sortLine_188 : decode cX11_sortLine 188 = .ok (.iadd, 1) := by decide +kernel
theorem dX11_sortLine_189 : decode cX11_sortLine 189 = .ok (.aload_n 0, 1) := by decide +kernel
theorem dX11_sortLine_190 : decode cX11_sortLine 190 = .ok (.getfield 169, 3) := by decide +kernel
theorem dX11_sortLine_193 : decode cX11_sortLine 193 = .ok (.iastore, 1) := by decide +kernel
theorem dX11_sortLine_194 : decode cX11_sortLine 194 = .ok (.iinc 2 1, 3) := by decide +kernel
theorem dX11_sortLine_197 : decode cX11_sortLine 197 = .ok (.goto (-50), 3) := by decide +kernel
theorem dX11_sortLine_200 : decode cX11_sortLine 200 = .ok (.aload_n 0, 1) := by decide +kernel
theorem dX11_sortLine_201 : decode cX11_sortLine 201 = .ok (.dup, 1) := by decide +kernel
theorem dX11_sortLine_202 : decode cX11_sortLine 202 = .ok (.getfield 189, 3) := by decide +kernel
theorem dX11_sortLine_205 : decode cX11_sortLine 205 = .ok (.iconst 1, 1) := by decide +kernel
theorem dX11_sortLine_206 : decode cX11_sortLine 206 = .ok (.iadd, 1) := by decide +kernel
theorem dX11_sortLine_207 : decode cX11_sortLine 207 = .ok (.putfield 189, 3) := by decide +kernel
theorem dX11_sortLine_210 : decode cX11_sortLine 210 = .ok (.aload_n 0, 1) := by decide +kernel
theorem dX11_sortLine_211 : decode cX11_sortLine 211 = .ok (.invokevirtual 185, 3) := by decide +kernel
theorem dX11_sortLine_214 : decode cX11_sortLine 214 = .ok (.ireturn, 1) := by decide +kernel
theorem dX11_onceLine_0 : decode cX11_onceLine 0 = .ok (.aload_n 0, 1) := by decide +kernel
theorem dX11_onceLine_1 : decode cX11_onceLine 1 = .ok (.getfield 24, 3) := by decide +kernel
theorem dX11_onceLine_4 : decode cX11_onceLine 4 = .ok (.iload_n 1, 1) := by decide +kernel
theorem dX11_onceLine_5 : decode cX11_onceLine 5 = .ok (.iaload, 1) := by decide +kernel
theorem dX11_onceLine_6 : decode cX11_onceLine 6 = .ok (.iconst (-1), 1) := by decide +kernel
theorem dX11_onceLine_7 : decode cX11_onceLine 7 = .ok (.if_icmp .eq 5, 3) := by decide +kernel
theorem dX11_onceLine_10 : decode cX11_onceLine 10 = .ok (.iconst 0, 1) := by decide +kernel
theorem dX11_onceLine_11 : decode cX11_onceLine 11 = .ok (.ireturn, 1) := by decide +kernel
theorem dX11_onceLine_12 : decode cX11_onceLine 12 = .ok (.aload_n 0, 1) := by decide +kernel
theorem dX11_onceLine_13 : decode cX11_onceLine 13 = .ok (.invokevirtual 172, 3) := by decide +kernel
theorem dX11_onceLine_16 : decode cX11_onceLine 16 = .ok (.aload_n 0, 1) := by decide +kernel
theorem dX11_onceLine_17 : decode cX11_onceLine 17 = .ok (.iload_n 2, 1) := by decide +kernel
theorem dX11_onceLine_18 : decode cX11_onceLine 18 = .ok (.iload_n 3, 1) := by decide +kernel
theorem dX11_onceLine_19 : decode cX11_onceLine 19 = .ok (.invokevirtual 181, 3) := by decide +kernel
theorem dX11_onceLine_22 : decode cX11_onceLine 22 = .ok (.ifCond .ne 5, 3) := by decide +kernel
theorem dX11_onceLine_25 : decode cX11_onceLine 25 = .ok (.iconst 0, 1) := by decide +kernel
theorem dX11_onceLine_26 : decode cX11_onceLine 26 = .ok (.ireturn, 1) := by decide +kernel
theorem dX11_onceLine_27 : decode cX11_onceLine 27 = .ok (.aload_n 0, 1) := by decide +kernel
theorem dX11_onceLine_28 : decode cX11_onceLine 28 = .ok (.getfield 24, 3) := by decide +kernel
theorem dX11_onceLine_31 : decode cX11_onceLine 31 = .ok (.iload_n 1, 1) := by decide +kernel
theorem dX11_onceLine_32 : decode cX11_onceLine 32 = .ok (.aload_n 0, 1) := by decide +kernel
theorem dX11_onceLine_33 : decode cX11_onceLine 33 = .ok (.getfield 169, 3) := by decide +kernel
theorem dX11_onceLine_36 : decode cX11_onceLine 36 = .ok (.iastore, 1) := by decide +kernel
theorem dX11_onceLine_37 : decode cX11_onceLine 37 = .ok (.aload_n 0, 1) := by decide +kernel
theorem dX11_onceLine_38 : decode cX11_onceLine 38 = .ok (.invokevirtual 185, 3) := by decide +kernel
theorem dX11_onceLine_41 : decode cX11_onceLine 41 = .ok (.ireturn, 1) := by decide +kernel
theorem dX11_townLine_0 : decode cX11_townLine 0 = .ok (.aload_n 0, 1) := by decide +kernel
theorem dX11_townLine_1 : decode cX11_townLine 1 = .ok (.ldc 192, 2) := by decide +kernel
theorem dX11_townLine_3 : decode cX11_townLine 3 = .ok (.invokevirtual 194, 3) := by decide +kernel
theorem dX11_townLine_6 : decode cX11_townLine 6 = .ok (.ifCond .eq 8, 3) := by decide +kernel
theorem dX11_townLine_9 : decode cX11_townLine 9 = .ok (.aload_n 0, 1) := by decide +kernel
theorem dX11_townLine_10 : decode cX11_townLine 10 = .ok (.invokevirtual 210, 3) := by decide +kernel
theorem dX11_townLine_13 : decode cX11_townLine 13 = .ok (.ireturn, 1) := by decide +kernel
theorem dX11_townLine_14 : decode cX11_townLine 14 = .ok (.aload_n 0, 1) := by decide +kernel
theorem dX11_townLine_15 : decode cX11_townLine 15 = .ok (.ldc 198, 2) := by decide +kernel
theorem dX11_townLine_17 : decode cX11_townLine 17 = .ok (.invokevirtual 194, 3) := by decide +kernel
theorem dX11_townLine_20 : decode cX11_townLine 20 = .ok (.ifCond .eq 8, 3) := by decide +kernel
theorem dX11_townLine_23 : decode cX11_townLine 23 = .ok (.aload_n 0, 1) := by decide +kernel
theorem dX11_townLine_24 : decode cX11_townLine 24 = .ok (.invokevirtual 213, 3) := by decide +kernel
theorem dX11_townLine_27 : decode cX11_townLine 27 = .ok (.ireturn, 1) := by decide +kernel
theorem dX11_townLine_28 : decode cX11_townLine 28 = .ok (.aload_n 0, 1) := by decide +kernel
theorem dX11_townLine_29 : decode cX11_townLine 29 = .ok (.ldc 200, 2) := by decide +kernel
theorem dX11_townLine_31 : decode cX11_townLine 31 = .ok (.invokevirtual 194, 3) := by decide +kernel
theorem dX11_townLine_34 : decode cX11_townLine 34 = .ok (.ifCond .eq 14, 3) := by decide +kernel
theorem dX11_townLine_37 : decode cX11_townLine 37 = .ok (.aload_n 0, 1) := by decide +kernel
theorem dX11_townLine_38 : decode cX11_townLine 38 = .ok (.iconst 0, 1) := by decide +kernel
theorem dX11_townLine_39 : decode cX11_townLine 39 = .ok (.bipush 10, 2) := by decide +kernel
theorem dX11_townLine_41 : decode cX11_townLine 41 = .ok (.sipush 240, 3) := by decide +kernel
theorem dX11_townLine_44 : decode cX11_townLine 44 = .ok (.invokevirtual 216, 3) := by decide +kernel
theorem dX11_townLine_47 : decode cX11_townLine 47 = .ok (.ireturn, 1) := by decide +kernel
theorem dX11_townLine_48 : decode cX11_townLine 48 = .ok (.aload_n 0, 1) := by decide +kernel
theorem dX11_townLine_49 : decode cX11_townLine 49 = .ok (.ldc 202, 2) := by decide +kernel
theorem dX11_townLine_51 : decode cX11_townLine 51 = .ok (.invokevirtual 194, 3) := by decide +kernel
theorem dX11_townLine_54 : decode cX11_townLine 54 = .ok (.ifCond .eq 12, 3) := by decide +kernel
theorem dX11_townLine_57 : decode cX11_townLine 57 = .ok (.aload_n 0, 1) := by decide +kernel
theorem dX11_townLine_58 : decode cX11_townLine 58 = .ok (.iconst 1, 1) := by decide +kernel
theorem dX11_townLine_59 : decode cX11_townLine 59 = .ok (.iconst 0, 1) := by decide +kernel
theorem dX11_townLine_60 : decode cX11_townLine 60 = .ok (.bipush 99, 2) := by decide +kernel
theorem dX11_townLine_62 : decode cX11_townLine 62 = .ok (.invokevirtual 216, 3) := by decide +kernel
theorem dX11_townLine_65 : decode cX11_townLine 65 = .ok (.ireturn, 1) := by decide +kernel
theorem dX11_townLine_66 : decode cX11_townLine 66 = .ok (.aload_n 0, 1) := by decide +kernel
theorem dX11_townLine_67 : decode cX11_townLine 67 = .ok (.ldc 204, 2) := by decide +kernel
theorem dX11_townLine_69 : decode cX11_townLine 69 = .ok (.invokevirtual 194, 3) := by decide +kernel
theorem dX11_townLine_72 : decode cX11_townLine 72 = .ok (.ifCond .eq 18, 3) := by decide +kernel
theorem dX11_townLine_75 : decode cX11_townLine 75 = .ok (.aload_n 0, 1) := by decide +kernel
theorem dX11_townLine_76 : decode cX11_townLine 76 = .ok (.iconst 2, 1) := by decide +kernel
theorem dX11_townLine_77 : decode cX11_townLine 77 = .ok (.iconst 0, 1) := by decide +kernel
theorem dX11_townLine_78 : decode cX11_townLine 78 = .ok (.bipush 9, 2) := by decide +kernel
theorem dX11_townLine_80 : decode cX11_townLine 80 = .ok (.invokevirtual 216, 3) := by decide +kernel
theorem dX11_townLine_83 : decode cX11_townLine 83 = .ok (.ifCond .eq 7, 3) := by decide +kernel
theorem dX11_townLine_86 : decode cX11_townLine 86 = .ok (.iconst 1, 1) := by decide +kernel
theorem dX11_townLine_87 : decode cX11_townLine 87 = .ok (.goto 4, 3) := by decide +kernel
theorem dX11_townLine_90 : decode cX11_townLine 90 = .ok (.iconst 0, 1) := by decide +kernel
theorem dX11_townLine_91 : decode cX11_townLine 91 = .ok (.ireturn, 1) := by decide +kernel
theorem dX11_townFault_0 : decode cX11_townFault 0 = .ok (.aload_n 0, 1) := by decide +kernel
theorem dX11_townFault_1 : decode cX11_townFault 1 = .ok (.iconst 0, 1) := by decide +kernel
theorem dX11_townFault_2 : decode cX11_townFault 2 = .ok (.putfield 178, 3) := by decide +kernel
theorem dX11_townFault_5 : decode cX11_townFault 5 = .ok (.aload_n 0, 1) := by decide +kernel
theorem dX11_townFault_6 : decode cX11_townFault 6 = .ok (.iconst 0, 1) := by decide +kernel
theorem dX11_townFault_7 : decode cX11_townFault 7 = .ok (.putfield 189, 3) := by decide +kernel
theorem dX11_townFault_10 : decode cX11_townFault 10 = .ok (.iconst 0, 1) := by decide +kernel
theorem dX11_townFault_11 : decode cX11_townFault 11 = .ok (.istore_n 1, 1) := by decide +kernel
theorem dX11_townFault_12 : decode cX11_townFault 12 = .ok (.iload_n 1, 1) := by decide +kernel
theorem dX11_townFault_13 : decode cX11_townFault 13 = .ok (.iconst 3, 1) := by decide +kernel
theorem dX11_townFault_14 : decode cX11_townFault 14 = .ok (.if_icmp .ge 16, 3) := by decide +kernel
theorem dX11_townFault_17 : decode cX11_townFault 17 = .ok (.aload_n 0, 1) := by decide +kernel
theorem dX11_townFault_18 : decode cX11_townFault 18 = .ok (.getfield 24, 3) := by decide +kernel
theorem dX11_townFault_21 : decode cX11_townFault 21 = .ok (.iload_n 1, 1) := by decide +kernel
theorem dX11_townFault_22 : decode cX11_townFault 22 = .ok (.iconst (-1), 1) := by decide +kernel
theorem dX11_townFault_23 : decode cX11_townFault 23 = .ok (.iastore, 1) := by decide +kernel
theorem dX11_townFault_24 : decode cX11_townFault 24 = .ok (.iinc 1 1, 3) := by decide +kernel
theorem dX11_townFault_27 : decode cX11_townFault 27 = .ok (.goto (-15), 3) := by decide +kernel
theorem dX11_townFault_30 : decode cX11_townFault 30 = .ok (.aload_n 0, 1) := by decide +kernel
theorem dX11_townFault_31 : decode cX11_townFault 31 = .ok (.iconst 0, 1) := by decide +kernel
theorem dX11_townFault_32 : decode cX11_townFault 32 = .ok (.putfield 126, 3) := by decide +kernel
theorem dX11_townFault_35 : decode cX11_townFault 35 = .ok (.aload_n 0, 1) := by decide +kernel
theorem dX11_townFault_36 : decode cX11_townFault 36 = .ok (.invokevirtual 172, 3) := by decide +kernel
theorem dX11_townFault_39 : decode cX11_townFault 39 = .ok (.aload_n 0, 1) := by decide +kernel
theorem dX11_townFault_40 : decode cX11_townFault 40 = .ok (.getfield 136, 3) := by decide +kernel
theorem dX11_townFault_43 : decode cX11_townFault 43 = .ok (.ifCond .eq 15, 3) := by decide +kernel
theorem dX11_townFault_46 : decode cX11_townFault 46 = .ok (.aload_n 0, 1) := by decide +kernel
theorem dX11_townFault_47 : decode cX11_townFault 47 = .ok (.invokevirtual 219, 3) := by decide +kernel
theorem dX11_townFault_50 : decode cX11_townFault 50 = .ok (.ifCond .ne (-11), 3) := by decide +kernel
theorem dX11_townFault_53 : decode cX11_townFault 53 = .ok (.aload_n 0, 1) := by decide +kernel
theorem dX11_townFault_54 : decode cX11_townFault 54 = .ok (.getfield 129, 3) := by decide +kernel
theorem dX11_townFault_57 : decode cX11_townFault 57 = .ok (.ireturn, 1) := by decide +kernel
theorem dX11_townFault_58 : decode cX11_townFault 58 = .ok (.aload_n 0, 1) := by decide +kernel
theorem dX11_townFault_59 : decode cX11_townFault 59 = .ok (.getfield 178, 3) := by decide +kernel
theorem dX11_townFault_62 : decode cX11_townFault 62 = .ok (.ifCond .eq 10, 3) := by decide +kernel
theorem dX11_townFault_65 : decode cX11_townFault 65 = .ok (.aload_n 0, 1) := by decide +kernel
theorem dX11_townFault_66 : decode cX11_townFault 66 = .ok (.getfield 189, 3) := by decide +kernel
theorem dX11_townFault_69 : decode cX11_townFault 69 = .ok (.ifCond .ne 10, 3) := by decide +kernel
theorem dX11_townFault_72 : decode cX11_townFault 72 = .ok (.aload_n 0, 1) := by decide +kernel
theorem dX11_townFault_73 : decode cX11_townFault 73 = .ok (.getfield 129, 3) := by decide +kernel
theorem dX11_townFault_76 : decode cX11_townFault 76 = .ok (.goto 4, 3) := by decide +kernel
theorem dX11_townFault_79 : decode cX11_townFault 79 = .ok (.iconst (-1), 1) := by decide +kernel
theorem dX11_townFault_80 : decode cX11_townFault 80 = .ok (.ireturn, 1) := by decide +kernel
theorem dX11_lays_0 : decode cX11_lays 0 = .ok (.aload_n 0, 1) := by decide +kernel
theorem dX11_lays_1 : decode cX11_lays 1 = .ok (.getfield 33, 3) := by decide +kernel
theorem dX11_lays_4 : decode cX11_lays 4 = .ok (.iconst 2, 1) := by decide +kernel
theorem dX11_lays_5 : decode cX11_lays 5 = .ok (.aload_n 0, 1) := by decide +kernel
theorem dX11_lays_6 : decode cX11_lays 6 = .ok (.getfield 222, 3) := by decide +kernel
theorem dX11_lays_9 : decode cX11_lays 9 = .ok (.imul, 1) := by decide +kernel
theorem dX11_lays_10 : decode cX11_lays 10 = .ok (.iload_n 1, 1) := by decide +kernel
theorem dX11_lays_11 : decode cX11_lays 11 = .ok (.iastore, 1) := by decide +kernel
theorem dX11_lays_12 : decode cX11_lays 12 = .ok (.aload_n 0, 1) := by decide +kernel
theorem dX11_lays_13 : decode cX11_lays 13 = .ok (.getfield 33, 3) := by decide +kernel
theorem dX11_lays_16 : decode cX11_lays 16 = .ok (.iconst 2, 1) := by decide +kernel
theorem dX11_lays_17 : decode cX11_lays 17 = .ok (.aload_n 0, 1) := by decide +kernel
theorem dX11_lays_18 : decode cX11_lays 18 = .ok (.getfield 222, 3) := by decide +kernel
theorem dX11_lays_21 : decode cX11_lays 21 = .ok (.imul, 1) := by decide +kernel
theorem dX11_lays_22 : decode cX11_lays 22 = .ok (.iconst 1, 1) := by decide +kernel
theorem dX11_lays_23 : decode cX11_lays 23 = .ok (.iadd, 1) := by decide +kernel
theorem dX11_lays_24 : decode cX11_lays 24 = .ok (.iload_n 2, 1) := by decide +kernel
theorem dX11_lays_25 : decode cX11_lays 25 = .ok (.iastore, 1) := by decide +kernel
theorem dX11_lays_26 : decode cX11_lays 26 = .ok (.aload_n 0, 1) := by decide +kernel
theorem dX11_lays_27 : decode cX11_lays 27 = .ok (.dup, 1) := by decide +kernel
theorem dX11_lays_28 : decode cX11_lays 28 = .ok (.getfield 222, 3) := by decide +kernel
theorem dX11_lays_31 : decode cX11_lays 31 = .ok (.iconst 1, 1) := by decide +kernel
theorem dX11_lays_32 : decode cX11_lays 32 = .ok (.iadd, 1) := by decide +kernel
theorem dX11_lays_33 : decode cX11_lays 33 = .ok (.putfield 222, 3) := by decide +kernel
theorem dX11_lays_36 : decode cX11_lays 36 = .ok (.return_, 1) := by decide +kernel
theorem dX11_rank_0 : decode cX11_rank 0 = .ok (.iload_n 0, 1) := by decide +kernel
theorem dX11_rank_1 : decode cX11_rank 1 = .ok (.iconst 4, 1) := by decide +kernel
theorem dX11_rank_2 : decode cX11_rank 2 = .ok (.if_icmp .ne 7, 3) := by decide +kernel
theorem dX11_rank_5 : decode cX11_rank 5 = .ok (.iconst 2, 1) := by decide +kernel
theorem dX11_rank_6 : decode cX11_rank 6 = .ok (.goto 18, 3) := by decide +kernel
theorem dX11_rank_9 : decode cX11_rank 9 = .ok (.iload_n 0, 1) := by decide +kernel
theorem dX11_rank_10 : decode cX11_rank 10 = .ok (.iconst 2, 1) := by decide +kernel
theorem dX11_rank_11 : decode cX11_rank 11 = .ok (.if_icmp .eq 8, 3) := by decide +kernel
theorem dX11_rank_14 : decode cX11_rank 14 = .ok (.iload_n 0, 1) := by decide +kernel
theorem dX11_rank_15 : decode cX11_rank 15 = .ok (.iconst 3, 1) := by decide +kernel
theorem dX11_rank_16 : decode cX11_rank 16 = .ok (.if_icmp .ne 7, 3) := by decide +kernel
theorem dX11_rank_19 : decode cX11_rank 19 = .ok (.iconst 1, 1) := by decide +kernel
theorem dX11_rank_20 : decode cX11_rank 20 = .ok (.goto 4, 3) := by decide +kernel
theorem dX11_rank_23 : decode cX11_rank 23 = .ok (.iconst 0, 1) := by decide +kernel
theorem dX11_rank_24 : decode cX11_rank 24 = .ok (.ireturn, 1) := by decide +kernel
theorem dX11_empties_0 : decode cX11_empties 0 = .ok (.aload_n 0, 1) := by decide +kernel
theorem dX11_empties_1 : decode cX11_empties 1 = .ok (.getfield 225, 3) := by decide +kernel
theorem dX11_empties_4 : decode cX11_empties 4 = .ok (.ifCond .le 63, 3) := by decide +kernel
theorem dX11_empties_7 : decode cX11_empties 7 = .ok (.aload_n 0, 1) := by decide +kernel
theorem dX11_empties_8 : decode cX11_empties 8 = .ok (.getfield 88, 3) := by decide +kernel
theorem dX11_empties_11 : decode cX11_empties 11 = .ok (.aload_n 0, 1) := by decide +kernel
theorem dX11_empties_12 : decode cX11_empties 12 = .ok (.getfield 225, 3) := by decide +kernel
theorem dX11_empties_15 : decode cX11_empties 15 = .ok (.iconst 1, 1) := by decide +kernel
theorem dX11_empties_16 : decode cX11_empties 16 = .ok (.isub, 1) := by decide +kernel
theorem dX11_empties_17 : decode cX11_empties 17 = .ok (.iaload, 1) := by decide +kernel
theorem dX11_empties_18 : decode cX11_empties 18 = .ok (.iconst (-1), 1) := by decide +kernel
theorem dX11_empties_19 : decode cX11_empties 19 = .ok (.if_icmp .eq 48, 3) := by decide +kernel
theorem dX11_empties_22 : decode cX11_empties 22 = .ok (.aload_n 0, 1) := by decide +kernel
theorem dX11_empties_23 : decode cX11_empties 23 = .ok (.getfield 88, 3) := by decide +kernel
theorem dX11_empties_26 : decode cX11_empties 26 = .ok (.aload_n 0, 1) := by decide +kernel
theorem dX11_empties_27 : decode cX11_empties 27 = .ok (.getfield 225, 3) := by decide +kernel
theorem dX11_empties_30 : decode cX11_empties 30 = .ok (.iconst 1, 1) := by decide +kernel
theorem dX11_empties_31 : decode cX11_empties 31 = .ok (.isub, 1) := by decide +kernel
theorem dX11_empties_32 : decode cX11_empties 32 = .ok (.iaload, 1) := by decide +kernel
theorem dX11_empties_33 : decode cX11_empties 33 = .ok (.invokestatic 228, 3) := by decide +kernel
theorem dX11_empties_36 : decode cX11_empties 36 = .ok (.iload_n 1, 1) := by decide +kernel
theorem dX11_empties_37 : decode cX11_empties 37 = .ok (.if_icmp .lt 30, 3) := by decide +kernel
theorem dX11_empties_40 : decode cX11_empties 40 = .ok (.aload_n 0, 1) := by decide +kernel
theorem dX11_empties_41 : decode cX11_empties 41 = .ok (.dup, 1) := by decide +kernel
theorem dX11_empties_42 : decode cX11_empties 42 = .ok (.getfield 225, 3) := by decide +kernel
theorem dX11_empties_45 : decode cX11_empties 45 = .ok (.iconst 1, 1) := by decide +kernel
theorem dX11_empties_46 : decode cX11_empties 46 = .ok (.isub, 1) := by decide +kernel
theorem dX11_empties_47 : decode cX11_empties 47 = .ok (.putfield 225, 3) := by decide +kernel
theorem dX11_empties_50 : decode cX11_empties 50 = .ok (.aload_n 0, 1) := by decide +kernel
theorem dX11_empties_51 : decode cX11_empties 51 = .ok (.aload_n 0, 1) := by decide +kernel
theorem dX11_empties_52 : decode cX11_empties 52 = .ok (.getfield 88, 3) := by decide +kernel
theorem dX11_empties_55 : decode cX11_empties 55 = .ok (.aload_n 0, 1) := by decide +kernel
theorem dX11_empties_56 : decode cX11_empties 56 = .ok (.getfield 225, 3) := by decide +kernel
theorem dX11_empties_59 : decode cX11_empties 59 = .ok (.iaload, 1) := by decide +kernel
theorem dX11_empties_60 : decode cX11_empties 60 = .ok (.iconst 0, 1) := by decide +kernel
theorem dX11_empties_61 : decode cX11_empties 61 = .ok (.invokevirtual 231, 3) := by decide +kernel
theorem dX11_empties_64 : decode cX11_empties 64 = .ok (.goto (-64), 3) := by decide +kernel
theorem dX11_empties_67 : decode cX11_empties 67 = .ok (.return_, 1) := by decide +kernel
theorem dX11_waitsFor_0 : decode cX11_waitsFor 0 = .ok (.aload_n 0, 1) := by decide +kernel
theorem dX11_waitsFor_1 : decode cX11_waitsFor 1 = .ok (.getfield 88, 3) := by decide +kernel
theorem dX11_waitsFor_4 : decode cX11_waitsFor 4 = .ok (.aload_n 0, 1) := by decide +kernel
theorem dX11_waitsFor_5 : decode cX11_waitsFor 5 = .ok (.getfield 225, 3) := by decide +kernel
theorem dX11_waitsFor_8 : decode cX11_waitsFor 8 = .ok (.iload_n 1, 1) := by decide +kernel
theorem dX11_waitsFor_9 : decode cX11_waitsFor 9 = .ok (.iastore, 1) := by decide +kernel
theorem dX11_waitsFor_10 : decode cX11_waitsFor 10 = .ok (.aload_n 0, 1) := by decide +kernel
theorem dX11_waitsFor_11 : decode cX11_waitsFor 11 = .ok (.dup, 1) := by decide +kernel
theorem dX11_waitsFor_12 : decode cX11_waitsFor 12 = .ok (.getfield 225, 3) := by decide +kernel
theorem dX11_waitsFor_15 : decode cX11_waitsFor 15 = .ok (.iconst 1, 1) := by decide +kernel
theorem dX11_waitsFor_16 : decode cX11_waitsFor 16 = .ok (.iadd, 1) := by decide +kernel
theorem dX11_waitsFor_17 : decode cX11_waitsFor 17 = .ok (.putfield 225, 3) := by decide +kernel
theorem dX11_waitsFor_20 : decode cX11_waitsFor 20 = .ok (.aload_n 0, 1) := by decide +kernel
theorem dX11_waitsFor_21 : decode cX11_waitsFor 21 = .ok (.invokevirtual 172, 3) := by decide +kernel
theorem dX11_waitsFor_24 : decode cX11_waitsFor 24 = .ok (.return_, 1) := by decide +kernel
theorem dX11_nameHere_0 : decode cX11_nameHere 0 = .ok (.aload_n 0, 1) := by decide +kernel
theorem dX11_nameHere_1 : decode cX11_nameHere 1 = .ok (.ldc 235, 2) := by decide +kernel
theorem dX11_nameHere_3 : decode cX11_nameHere 3 = .ok (.invokevirtual 194, 3) := by decide +kernel
theorem dX11_nameHere_6 : decode cX11_nameHere 6 = .ok (.ifCond .eq 7, 3) := by decide +kernel
theorem dX11_nameHere_9 : decode cX11_nameHere 9 = .ok (.iconst 0, 1) := by decide +kernel
theorem dX11_nameHere_10 : decode cX11_nameHere 10 = .ok (.goto 125, 3) := by decide +kernel
theorem dX11_nameHere_13 : decode cX11_nameHere 13 = .ok (.aload_n 0, 1) := by decide +kernel
theorem dX11_nameHere_14 : decode cX11_nameHere 14 = .ok (.ldc 237, 2) := by decide +kernel
theorem dX11_nameHere_16 : decode cX11_nameHere 16 = .ok (.invokevirtual 194, 3) := by decide +kernel
theorem dX11_nameHere_19 : decode cX11_nameHere 19 = .ok (.ifCond .eq 7, 3) := by decide +kernel
theorem dX11_nameHere_22 : decode cX11_nameHere 22 = .ok (.iconst 1, 1) := by decide +kernel
theorem dX11_nameHere_23 : decode cX11_nameHere 23 = .ok (.goto 112, 3) := by decide +kernel
theorem dX11_nameHere_26 : decode cX11_nameHere 26 = .ok (.aload_n 0, 1) := by decide +kernel
theorem dX11_nameHere_27 : decode cX11_nameHere 27 = .ok (.ldc 198, 2) := by decide +kernel
theorem dX11_nameHere_29 : decode cX11_nameHere 29 = .ok (.invokevirtual 194, 3) := by decide +kernel
theorem dX11_nameHere_32 : decode cX11_nameHere 32 = .ok (.ifCond .eq 7, 3) := by decide +kernel
theorem dX11_nameHere_35 : decode cX11_nameHere 35 = .ok (.iconst 2, 1) := by decide +kernel
theorem dX11_nameHere_36 : decode cX11_nameHere 36 = .ok (.goto 99, 3) := by decide +kernel
theorem dX11_nameHere_39 : decode cX11_nameHere 39 = .ok (.aload_n 0, 1) := by decide +kernel
theorem dX11_nameHere_40 : decode cX11_nameHere 40 = .ok (.ldc 239, 2) := by decide +kernel
theorem dX11_nameHere_42 : decode cX11_nameHere 42 = .ok (.invokevirtual 194, 3) := by decide +kernel
theorem dX11_nameHere_45 : decode cX11_nameHere 45 = .ok (.ifCond .eq 7, 3) := by decide +kernel
theorem dX11_nameHere_48 : decode cX11_nameHere 48 = .ok (.iconst 3, 1) := by decide +kernel
theorem dX11_nameHere_49 : decode cX11_nameHere 49 = .ok (.goto 86, 3) := by decide +kernel
theorem dX11_nameHere_52 : decode cX11_nameHere 52 = .ok (.aload_n 0, 1) := by decide +kernel
theorem dX11_nameHere_53 : decode cX11_nameHere 53 = .ok (.ldc 240, 2) := by decide +kernel
theorem dX11_nameHere_55 : decode cX11_nameHere 55 = .ok (.invokevirtual 194, 3) := by decide +kernel
theorem dX11_nameHere_58 : decode cX11_nameHere 58 = .ok (.ifCond .eq 7, 3) := by decide +kernel
theorem dX11_nameHere_61 : decode cX11_nameHere 61 = .ok (.iconst 4, 1) := by decide +kernel
theorem dX11_nameHere_62 : decode cX11_nameHere 62 = .ok (.goto 73, 3) := by decide +kernel
theorem dX11_nameHere_65 : decode cX11_nameHere 65 = .ok (.aload_n 0, 1) := by decide +kernel
theorem dX11_nameHere_66 : decode cX11_nameHere 66 = .ok (.ldc 242, 2) := by decide +kernel
theorem dX11_nameHere_68 : decode cX11_nameHere 68 = .ok (.invokevirtual 194, 3) := by decide +kernel
theorem dX11_nameHere_71 : decode cX11_nameHere 71 = .ok (.ifCond .eq 7, 3) := by decide +kernel
theorem dX11_nameHere_74 : decode cX11_nameHere 74 = .ok (.iconst 5, 1) := by decide +kernel
