theorem dX11_isAsked_10 : decode cX11_isAsked 10 = .ok (.invokevirtual 321, 3) := by decide +kernel
theorem dX11_isAsked_13 : decode cX11_isAsked 13 = .ok (.ifCond .eq 29, 3) := by decide +kernel
theorem dX11_isAsked_16 : decode cX11_isAsked 16 = .ok (.aload_n 0, 1) := by decide +kernel
theorem dX11_isAsked_17 : decode cX11_isAsked 17 = .ok (.getfield 27, 3) := by decide +kernel
theorem dX11_isAsked_20 : decode cX11_isAsked 20 = .ok (.iconst 3, 1) := by decide +kernel
theorem dX11_isAsked_21 : decode cX11_isAsked 21 = .ok (.iload_n 2, 1) := by decide +kernel
theorem dX11_isAsked_22 : decode cX11_isAsked 22 = .ok (.imul, 1) := by decide +kernel
theorem dX11_isAsked_23 : decode cX11_isAsked 23 = .ok (.iaload, 1) := by decide +kernel
theorem dX11_isAsked_24 : decode cX11_isAsked 24 = .ok (.iconst 3, 1) := by decide +kernel
theorem dX11_isAsked_25 : decode cX11_isAsked 25 = .ok (.if_icmp .gt 17, 3) := by decide +kernel
theorem dX11_isAsked_28 : decode cX11_isAsked 28 = .ok (.iload_n 3, 1) := by decide +kernel
theorem dX11_isAsked_29 : decode cX11_isAsked 29 = .ok (.iconst 0, 1) := by decide +kernel
theorem dX11_isAsked_30 : decode cX11_isAsked 30 = .ok (.bipush 16, 2) := by decide +kernel
theorem dX11_isAsked_32 : decode cX11_isAsked 32 = .ok (.invokestatic 122, 3) := by decide +kernel
theorem dX11_isAsked_35 : decode cX11_isAsked 35 = .ok (.ifCond .eq 7, 3) := by decide +kernel
theorem dX11_isAsked_38 : decode cX11_isAsked 38 = .ok (.iconst 1, 1) := by decide +kernel
theorem dX11_isAsked_39 : decode cX11_isAsked 39 = .ok (.goto 4, 3) := by decide +kernel
theorem dX11_isAsked_42 : decode cX11_isAsked 42 = .ok (.iconst 0, 1) := by decide +kernel
theorem dX11_isAsked_43 : decode cX11_isAsked 43 = .ok (.ireturn, 1) := by decide +kernel
theorem dX11_isPlace_0 : decode cX11_isPlace 0 = .ok (.iload_n 0, 1) := by decide +kernel
theorem dX11_isPlace_1 : decode cX11_isPlace 1 = .ok (.ifCond .lt 34, 3) := by decide +kernel
theorem dX11_isPlace_4 : decode cX11_isPlace 4 = .ok (.iload_n 0, 1) := by decide +kernel
theorem dX11_isPlace_5 : decode cX11_isPlace 5 = .ok (.sipush 10000, 3) := by decide +kernel
theorem dX11_isPlace_8 : decode cX11_isPlace 8 = .ok (.idiv, 1) := by decide +kernel
theorem dX11_isPlace_9 : decode cX11_isPlace 9 = .ok (.bipush 121, 2) := by decide +kernel
theorem dX11_isPlace_11 : decode cX11_isPlace 11 = .ok (.if_icmp .ge 24, 3) := by decide +kernel
theorem dX11_isPlace_14 : decode cX11_isPlace 14 = .ok (.iload_n 0, 1) := by decide +kernel
theorem dX11_isPlace_15 : decode cX11_isPlace 15 = .ok (.bipush 100, 2) := by decide +kernel
theorem dX11_isPlace_17 : decode cX11_isPlace 17 = .ok (.idiv, 1) := by decide +kernel
theorem dX11_isPlace_18 : decode cX11_isPlace 18 = .ok (.bipush 100, 2) := by decide +kernel
theorem dX11_isPlace_20 : decode cX11_isPlace 20 = .ok (.irem, 1) := by decide +kernel
theorem dX11_isPlace_21 : decode cX11_isPlace 21 = .ok (.iload_n 0, 1) := by decide +kernel
theorem dX11_isPlace_22 : decode cX11_isPlace 22 = .ok (.bipush 100, 2) := by decide +kernel
theorem dX11_isPlace_24 : decode cX11_isPlace 24 = .ok (.irem, 1) := by decide +kernel
theorem dX11_isPlace_25 : decode cX11_isPlace 25 = .ok (.iadd, 1) := by decide +kernel
theorem dX11_isPlace_26 : decode cX11_isPlace 26 = .ok (.bipush 12, 2) := by decide +kernel
theorem dX11_isPlace_28 : decode cX11_isPlace 28 = .ok (.if_icmp .gt 7, 3) := by decide +kernel
theorem dX11_isPlace_31 : decode cX11_isPlace 31 = .ok (.iconst 1, 1) := by decide +kernel
theorem dX11_isPlace_32 : decode cX11_isPlace 32 = .ok (.goto 4, 3) := by decide +kernel
theorem dX11_isPlace_35 : decode cX11_isPlace 35 = .ok (.iconst 0, 1) := by decide +kernel
theorem dX11_isPlace_36 : decode cX11_isPlace 36 = .ok (.ireturn, 1) := by decide +kernel
theorem dX11_value_0 : decode cX11_value 0 = .ok (.aload_n 0, 1) := by decide +kernel
theorem dX11_value_1 : decode cX11_value 1 = .ok (.iload_n 1, 1) := by decide +kernel
theorem dX11_value_2 : decode cX11_value 2 = .ok (.iload_n 2, 1) := by decide +kernel
theorem dX11_value_3 : decode cX11_value 3 = .ok (.iload 4, 2) := by decide +kernel
theorem dX11_value_5 : decode cX11_value 5 = .ok (.invokevirtual 461, 3) := by decide +kernel
theorem dX11_value_8 : decode cX11_value 8 = .ok (.ifCond .eq 20, 3) := by decide +kernel
theorem dX11_value_11 : decode cX11_value 11 = .ok (.iload_n 3, 1) := by decide +kernel
theorem dX11_value_12 : decode cX11_value 12 = .ok (.invokestatic 464, 3) := by decide +kernel
theorem dX11_value_15 : decode cX11_value 15 = .ok (.ifCond .eq 13, 3) := by decide +kernel
theorem dX11_value_18 : decode cX11_value 18 = .ok (.iload 5, 2) := by decide +kernel
theorem dX11_value_20 : decode cX11_value 20 = .ok (.iconst 0, 1) := by decide +kernel
theorem dX11_value_21 : decode cX11_value 21 = .ok (.iconst 1, 1) := by decide +kernel
theorem dX11_value_22 : decode cX11_value 22 = .ok (.invokestatic 122, 3) := by decide +kernel
theorem dX11_value_25 : decode cX11_value 25 = .ok (.ifCond .ne 7, 3) := by decide +kernel
theorem dX11_value_28 : decode cX11_value 28 = .ok (.ldc_w 284, 3) := by decide +kernel
theorem dX11_value_31 : decode cX11_value 31 = .ok (.ireturn, 1) := by decide +kernel
theorem dX11_value_32 : decode cX11_value 32 = .ok (.iload_n 3, 1) := by decide +kernel
theorem dX11_value_33 : decode cX11_value 33 = .ok (.sipush 10000, 3) := by decide +kernel
theorem dX11_value_36 : decode cX11_value 36 = .ok (.idiv, 1) := by decide +kernel
theorem dX11_value_37 : decode cX11_value 37 = .ok (.istore 6, 2) := by decide +kernel
theorem dX11_value_39 : decode cX11_value 39 = .ok (.aload_n 0, 1) := by decide +kernel
theorem dX11_value_40 : decode cX11_value 40 = .ok (.iload_n 1, 1) := by decide +kernel
theorem dX11_value_41 : decode cX11_value 41 = .ok (.iload_n 2, 1) := by decide +kernel
theorem dX11_value_42 : decode cX11_value 42 = .ok (.iload 4, 2) := by decide +kernel
theorem dX11_value_44 : decode cX11_value 44 = .ok (.aload_n 0, 1) := by decide +kernel
theorem dX11_value_45 : decode cX11_value 45 = .ok (.getfield 297, 3) := by decide +kernel
theorem dX11_value_48 : decode cX11_value 48 = .ok (.iload 6, 2) := by decide +kernel
theorem dX11_value_50 : decode cX11_value 50 = .ok (.invokevirtual 467, 3) := by decide +kernel
theorem dX11_value_53 : decode cX11_value 53 = .ok (.iload 5, 2) := by decide +kernel
theorem dX11_value_55 : decode cX11_value 55 = .ok (.ifCond .ne 23, 3) := by decide +kernel
theorem dX11_value_58 : decode cX11_value 58 = .ok (.aload_n 0, 1) := by decide +kernel
theorem dX11_value_59 : decode cX11_value 59 = .ok (.iload 6, 2) := by decide +kernel
theorem dX11_value_61 : decode cX11_value 61 = .ok (.iload_n 3, 1) := by decide +kernel
theorem dX11_value_62 : decode cX11_value 62 = .ok (.bipush 100, 2) := by decide +kernel
theorem dX11_value_64 : decode cX11_value 64 = .ok (.idiv, 1) := by decide +kernel
theorem dX11_value_65 : decode cX11_value 65 = .ok (.bipush 100, 2) := by decide +kernel
theorem dX11_value_67 : decode cX11_value 67 = .ok (.irem, 1) := by decide +kernel
theorem dX11_value_68 : decode cX11_value 68 = .ok (.iload_n 3, 1) := by decide +kernel
theorem dX11_value_69 : decode cX11_value 69 = .ok (.bipush 100, 2) := by decide +kernel
theorem dX11_value_71 : decode cX11_value 71 = .ok (.irem, 1) := by decide +kernel
theorem dX11_value_72 : decode cX11_value 72 = .ok (.invokevirtual 433, 3) := by decide +kernel
theorem dX11_value_75 : decode cX11_value 75 = .ok (.goto 20, 3) := by decide +kernel
theorem dX11_value_78 : decode cX11_value 78 = .ok (.aload_n 0, 1) := by decide +kernel
theorem dX11_value_79 : decode cX11_value 79 = .ok (.iload 6, 2) := by decide +kernel
theorem dX11_value_81 : decode cX11_value 81 = .ok (.iload_n 3, 1) := by decide +kernel
theorem dX11_value_82 : decode cX11_value 82 = .ok (.bipush 100, 2) := by decide +kernel
theorem dX11_value_84 : decode cX11_value 84 = .ok (.idiv, 1) := by decide +kernel
theorem dX11_value_85 : decode cX11_value 85 = .ok (.bipush 100, 2) := by decide +kernel
theorem dX11_value_87 : decode cX11_value 87 = .ok (.irem, 1) := by decide +kernel
theorem dX11_value_88 : decode cX11_value 88 = .ok (.iload_n 3, 1) := by decide +kernel
theorem dX11_value_89 : decode cX11_value 89 = .ok (.bipush 100, 2) := by decide +kernel
theorem dX11_value_91 : decode cX11_value 91 = .ok (.irem, 1) := by decide +kernel
theorem dX11_value_92 : decode cX11_value 92 = .ok (.invokevirtual 471, 3) := by decide +kernel
theorem dX11_value_95 : decode cX11_value 95 = .ok (.ireturn, 1) := by decide +kernel
theorem dX11_entering_0 : decode cX11_entering 0 = .ok (.aload_n 0, 1) := by decide +kernel
theorem dX11_entering_1 : decode cX11_entering 1 = .ok (.iload_n 1, 1) := by decide +kernel
theorem dX11_entering_2 : decode cX11_entering 2 = .ok (.iload_n 2, 1) := by decide +kernel
theorem dX11_entering_3 : decode cX11_entering 3 = .ok (.iload 4, 2) := by decide +kernel
theorem dX11_entering_5 : decode cX11_entering 5 = .ok (.invokevirtual 461, 3) := by decide +kernel
theorem dX11_entering_8 : decode cX11_entering 8 = .ok (.ifCond .eq 25, 3) := by decide +kernel
theorem dX11_entering_11 : decode cX11_entering 11 = .ok (.iload_n 3, 1) := by decide +kernel
theorem dX11_entering_12 : decode cX11_entering 12 = .ok (.ifCond .lt 21, 3) := by decide +kernel
theorem dX11_entering_15 : decode cX11_entering 15 = .ok (.iload_n 3, 1) := by decide +kernel
theorem dX11_entering_16 : decode cX11_entering 16 = .ok (.bipush 100, 2) := by decide +kernel
theorem dX11_entering_18 : decode cX11_entering 18 = .ok (.idiv, 1) := by decide +kernel
theorem dX11_entering_19 : decode cX11_entering 19 = .ok (.bipush 121, 2) := by decide +kernel
theorem dX11_entering_21 : decode cX11_entering 21 = .ok (.if_icmp .ge 12, 3) := by decide +kernel
theorem dX11_entering_24 : decode cX11_entering 24 = .ok (.iload_n 3, 1) := by decide +kernel
theorem dX11_entering_25 : decode cX11_entering 25 = .ok (.bipush 100, 2) := by decide +kernel
theorem dX11_entering_27 : decode cX11_entering 27 = .ok (.irem, 1) := by decide +kernel
theorem dX11_entering_28 : decode cX11_entering 28 = .ok (.bipush 12, 2) := by decide +kernel
theorem dX11_entering_30 : decode cX11_entering 30 = .ok (.if_icmp .le 7, 3) := by decide +kernel
theorem dX11_entering_33 : decode cX11_entering 33 = .ok (.ldc_w 284, 3) := by decide +kernel
theorem dX11_entering_36 : decode cX11_entering 36 = .ok (.ireturn, 1) := by decide +kernel
theorem dX11_entering_37 : decode cX11_entering 37 = .ok (.aload_n 0, 1) := by decide +kernel
theorem dX11_entering_38 : decode cX11_entering 38 = .ok (.iload_n 1, 1) := by decide +kernel
theorem dX11_entering_39 : decode cX11_entering 39 = .ok (.iload_n 2, 1) := by decide +kernel
theorem dX11_entering_40 : decode cX11_entering 40 = .ok (.iload 4, 2) := by decide +kernel
theorem dX11_entering_42 : decode cX11_entering 42 = .ok (.aload_n 0, 1) := by decide +kernel
theorem dX11_entering_43 : decode cX11_entering 43 = .ok (.getfield 297, 3) := by decide +kernel
theorem dX11_entering_46 : decode cX11_entering 46 = .ok (.iload_n 3, 1) := by decide +kernel
theorem dX11_entering_47 : decode cX11_entering 47 = .ok (.bipush 100, 2) := by decide +kernel
theorem dX11_entering_49 : decode cX11_entering 49 = .ok (.idiv, 1) := by decide +kernel
theorem dX11_entering_50 : decode cX11_entering 50 = .ok (.invokevirtual 467, 3) := by decide +kernel
theorem dX11_entering_53 : decode cX11_entering 53 = .ok (.aload_n 0, 1) := by decide +kernel
theorem dX11_entering_54 : decode cX11_entering 54 = .ok (.iload_n 3, 1) := by decide +kernel
theorem dX11_entering_55 : decode cX11_entering 55 = .ok (.bipush 100, 2) := by decide +kernel
theorem dX11_entering_57 : decode cX11_entering 57 = .ok (.idiv, 1) := by decide +kernel
theorem dX11_entering_58 : decode cX11_entering 58 = .ok (.iload_n 3, 1) := by decide +kernel
theorem dX11_entering_59 : decode cX11_entering 59 = .ok (.bipush 100, 2) := by decide +kernel
theorem dX11_entering_61 : decode cX11_entering 61 = .ok (.irem, 1) := by decide +kernel
theorem dX11_entering_62 : decode cX11_entering 62 = .ok (.iconst 0, 1) := by decide +kernel
theorem dX11_entering_63 : decode cX11_entering 63 = .ok (.invokevirtual 433, 3) := by decide +kernel
theorem dX11_entering_66 : decode cX11_entering 66 = .ok (.sipush 1000, 3) := by decide +kernel
theorem dX11_entering_69 : decode cX11_entering 69 = .ok (.aload_n 0, 1) := by decide +kernel
theorem dX11_entering_70 : decode cX11_entering 70 = .ok (.getfield 297, 3) := by decide +kernel
theorem dX11_entering_73 : decode cX11_entering 73 = .ok (.imul, 1) := by decide +kernel
theorem dX11_entering_74 : decode cX11_entering 74 = .ok (.isub, 1) := by decide +kernel
theorem dX11_entering_75 : decode cX11_entering 75 = .ok (.ireturn, 1) := by decide +kernel
theorem dX11_when_0 : decode cX11_when 0 = .ok (.aload_n 0, 1) := by decide +kernel
theorem dX11_when_1 : decode cX11_when 1 = .ok (.iload_n 1, 1) := by decide +kernel
theorem dX11_when_2 : decode cX11_when 2 = .ok (.iload_n 2, 1) := by decide +kernel
theorem dX11_when_3 : decode cX11_when 3 = .ok (.iload 5, 2) := by decide +kernel
theorem dX11_when_5 : decode cX11_when 5 = .ok (.invokevirtual 461, 3) := by decide +kernel
theorem dX11_when_8 : decode cX11_when 8 = .ok (.ifCond .eq 25, 3) := by decide +kernel
theorem dX11_when_11 : decode cX11_when 11 = .ok (.iload_n 3, 1) := by decide +kernel
theorem dX11_when_12 : decode cX11_when 12 = .ok (.iconst 0, 1) := by decide +kernel
theorem dX11_when_13 : decode cX11_when 13 = .ok (.bipush 120, 2) := by decide +kernel
theorem dX11_when_15 : decode cX11_when 15 = .ok (.invokestatic 122, 3) := by decide +kernel
theorem dX11_when_18 : decode cX11_when 18 = .ok (.ifCond .eq 15, 3) := by decide +kernel
theorem dX11_when_21 : decode cX11_when 21 = .ok (.iload 4, 2) := by decide +kernel
theorem dX11_when_23 : decode cX11_when 23 = .ok (.iconst 0, 1) := by decide +kernel
theorem dX11_when_24 : decode cX11_when 24 = .ok (.ldc_w 474, 3) := by decide +kernel
theorem dX11_when_27 : decode cX11_when 27 = .ok (.invokestatic 122, 3) := by decide +kernel
theorem dX11_when_30 : decode cX11_when 30 = .ok (.ifCond .ne 5, 3) := by decide +kernel
theorem dX11_when_33 : decode cX11_when 33 = .ok (.iconst (-1), 1) := by decide +kernel
theorem dX11_when_34 : decode cX11_when 34 = .ok (.ireturn, 1) := by decide +kernel
theorem dX11_when_35 : decode cX11_when 35 = .ok (.aload_n 0, 1) := by decide +kernel
theorem dX11_when_36 : decode cX11_when 36 = .ok (.iload_n 1, 1) := by decide +kernel
theorem dX11_when_37 : decode cX11_when 37 = .ok (.iload_n 2, 1) := by decide +kernel
theorem dX11_when_38 : decode cX11_when 38 = .ok (.iload 5, 2) := by decide +kernel
theorem dX11_when_40 : decode cX11_when 40 = .ok (.aload_n 0, 1) := by decide +kernel
theorem dX11_when_41 : decode cX11_when 41 = .ok (.getfield 297, 3) := by decide +kernel
theorem dX11_when_44 : decode cX11_when 44 = .ok (.iload_n 3, 1) := by decide +kernel
theorem dX11_when_45 : decode cX11_when 45 = .ok (.invokevirtual 467, 3) := by decide +kernel
theorem dX11_when_48 : decode cX11_when 48 = .ok (.iconst (-1), 1) := by decide +kernel
theorem dX11_when_49 : decode cX11_when 49 = .ok (.istore 6, 2) := by decide +kernel
theorem dX11_when_51 : decode cX11_when 51 = .ok (.iconst 0, 1) := by decide +kernel
theorem dX11_when_52 : decode cX11_when 52 = .ok (.istore 7, 2) := by decide +kernel
theorem dX11_when_54 : decode cX11_when 54 = .ok (.iload 4, 2) := by decide +kernel
theorem dX11_when_56 : decode cX11_when 56 = .ok (.istore 8, 2) := by decide +kernel
theorem dX11_when_58 : decode cX11_when 58 = .ok (.iconst 0, 1) := by decide +kernel
theorem dX11_when_59 : decode cX11_when 59 = .ok (.istore 9, 2) := by decide +kernel
theorem dX11_when_61 : decode cX11_when 61 = .ok (.iload 9, 2) := by decide +kernel
theorem dX11_when_63 : decode cX11_when 63 = .ok (.bipush 6, 2) := by decide +kernel
theorem dX11_when_65 : decode cX11_when 65 = .ok (.if_icmp .ge 75, 3) := by decide +kernel
theorem dX11_when_68 : decode cX11_when 68 = .ok (.iload_n 3, 1) := by decide +kernel
theorem dX11_when_69 : decode cX11_when 69 = .ok (.bipush 10, 2) := by decide +kernel
theorem dX11_when_71 : decode cX11_when 71 = .ok (.iload 9, 2) := by decide +kernel
theorem dX11_when_73 : decode cX11_when 73 = .ok (.imul, 1) := by decide +kernel
theorem dX11_when_74 : decode cX11_when 74 = .ok (.isub, 1) := by decide +kernel
theorem dX11_when_75 : decode cX11_when 75 = .ok (.istore 10, 2) := by decide +kernel
theorem dX11_when_77 : decode cX11_when 77 = .ok (.iload 10, 2) := by decide +kernel
theorem dX11_when_79 : decode cX11_when 79 = .ok (.ifCond .ge 7, 3) := by decide +kernel
theorem dX11_when_82 : decode cX11_when 82 = .ok (.iconst 0, 1) := by decide +kernel
theorem dX11_when_83 : decode cX11_when 83 = .ok (.goto 24, 3) := by decide +kernel
theorem dX11_when_86 : decode cX11_when 86 = .ok (.aload_n 0, 1) := by decide +kernel
theorem dX11_when_87 : decode cX11_when 87 = .ok (.iload 10, 2) := by decide +kernel
theorem dX11_when_89 : decode cX11_when 89 = .ok (.iload 8, 2) := by decide +kernel
theorem dX11_when_91 : decode cX11_when 91 = .ok (.bipush 13, 2) := by decide +kernel
theorem dX11_when_93 : decode cX11_when 93 = .ok (.irem, 1) := by decide +kernel
theorem dX11_when_94 : decode cX11_when 94 = .ok (.iconst 0, 1) := by decide +kernel
theorem dX11_when_95 : decode cX11_when 95 = .ok (.invokevirtual 433, 3) := by decide +kernel
theorem dX11_when_98 : decode cX11_when 98 = .ok (.sipush 1000, 3) := by decide +kernel
theorem dX11_when_101 : decode cX11_when 101 = .ok (.aload_n 0, 1) := by decide +kernel
theorem dX11_when_102 : decode cX11_when 102 = .ok (.getfield 297, 3) := by decide +kernel
theorem dX11_when_105 : decode cX11_when 105 = .ok (.imul, 1) := by decide +kernel
theorem dX11_when_106 : decode cX11_when 106 = .ok (.isub, 1) := by decide +kernel
theorem dX11_when_107 : decode cX11_when 107 = .ok (.istore 11, 2) := by decide +kernel
theorem dX11_when_109 : decode cX11_when 109 = .ok (.iload 8, 2) := by decide +kernel
theorem dX11_when_111 : decode cX11_when 111 = .ok (.bipush 13, 2) := by decide +kernel
theorem dX11_when_113 : decode cX11_when 113 = .ok (.idiv, 1) := by decide +kernel
theorem dX11_when_114 : decode cX11_when 114 = .ok (.istore 8, 2) := by decide +kernel
theorem dX11_when_116 : decode cX11_when 116 = .ok (.iload 11, 2) := by decide +kernel
theorem dX11_when_118 : decode cX11_when 118 = .ok (.iload 7, 2) := by decide +kernel
theorem dX11_when_120 : decode cX11_when 120 = .ok (.if_icmp .gt 6, 3) := by decide +kernel
theorem dX11_when_123 : decode cX11_when 123 = .ok (.goto 11, 3) := by decide +kernel
theorem dX11_when_126 : decode cX11_when 126 = .ok (.iload 11, 2) := by decide +kernel
theorem dX11_when_128 : decode cX11_when 128 = .ok (.istore 7, 2) := by decide +kernel
theorem dX11_when_130 : decode cX11_when 130 = .ok (.iload 9, 2) := by decide +kernel
theorem dX11_when_132 : decode cX11_when 132 = .ok (.istore 6, 2) := by decide +kernel
theorem dX11_when_134 : decode cX11_when 134 = .ok (.iinc 9 1, 3) := by decide +kernel
theorem dX11_when_137 : decode cX11_when 137 = .ok (.goto (-76), 3) := by decide +kernel
theorem dX11_when_140 : decode cX11_when 140 = .ok (.iload 6, 2) := by decide +kernel
theorem dX11_when_142 : decode cX11_when 142 = .ok (.ireturn, 1) := by decide +kernel
theorem dX11_nobodyTurns_0 : decode cX11_nobodyTurns 0 = .ok (.iconst 1, 1) := by decide +kernel
theorem dX11_nobodyTurns_1 : decode cX11_nobodyTurns 1 = .ok (.istore_n 2, 1) := by decide +kernel
theorem dX11_nobodyTurns_2 : decode cX11_nobodyTurns 2 = .ok (.iload_n 2, 1) := by decide +kernel
theorem dX11_nobodyTurns_3 : decode cX11_nobodyTurns 3 = .ok (.iload_n 1, 1) := by decide +kernel
theorem dX11_nobodyTurns_4 : decode cX11_nobodyTurns 4 = .ok (.if_icmp .gt 55, 3) := by decide +kernel
theorem dX11_nobodyTurns_7 : decode cX11_nobodyTurns 7 = .ok (.iconst 0, 1) := by decide +kernel
theorem dX11_nobodyTurns_8 : decode cX11_nobodyTurns 8 = .ok (.istore_n 3, 1) := by decide +kernel
theorem dX11_nobodyTurns_9 : decode cX11_nobodyTurns 9 = .ok (.iload_n 3, 1) := by decide +kernel
theorem dX11_nobodyTurns_10 : decode cX11_nobodyTurns 10 = .ok (.bipush 12, 2) := by decide +kernel
theorem dX11_nobodyTurns_12 : decode cX11_nobodyTurns 12 = .ok (.if_icmp .gt 41, 3) := by decide +kernel
theorem dX11_nobodyTurns_15 : decode cX11_nobodyTurns 15 = .ok (.iconst 0, 1) := by decide +kernel
theorem dX11_nobodyTurns_16 : decode cX11_nobodyTurns 16 = .ok (.istore 4, 2) := by decide +kernel
theorem dX11_nobodyTurns_18 : decode cX11_nobodyTurns 18 = .ok (.iload_n 3, 1) := by decide +kernel
theorem dX11_nobodyTurns_19 : decode cX11_nobodyTurns 19 = .ok (.iload 4, 2) := by decide +kernel
theorem dX11_nobodyTurns_21 : decode cX11_nobodyTurns 21 = .ok (.iadd, 1) := by decide +kernel
theorem dX11_nobodyTurns_22 : decode cX11_nobodyTurns 22 = .ok (.bipush 12, 2) := by decide +kernel
theorem dX11_nobodyTurns_24 : decode cX11_nobodyTurns 24 = .ok (.if_icmp .gt 23, 3) := by decide +kernel
theorem dX11_nobodyTurns_27 : decode cX11_nobodyTurns 27 = .ok (.aload_n 0, 1) := by decide +kernel
theorem dX11_nobodyTurns_28 : decode cX11_nobodyTurns 28 = .ok (.iload_n 2, 1) := by decide +kernel
theorem dX11_nobodyTurns_29 : decode cX11_nobodyTurns 29 = .ok (.iload_n 3, 1) := by decide +kernel
theorem dX11_nobodyTurns_30 : decode cX11_nobodyTurns 30 = .ok (.iload 4, 2) := by decide +kernel
theorem dX11_nobodyTurns_32 : decode cX11_nobodyTurns 32 = .ok (.invokevirtual 471, 3) := by decide +kernel
theorem dX11_nobodyTurns_35 : decode cX11_nobodyTurns 35 = .ok (.iconst 1, 1) := by decide +kernel
theorem dX11_nobodyTurns_36 : decode cX11_nobodyTurns 36 = .ok (.if_icmp .ne 5, 3) := by decide +kernel
theorem dX11_nobodyTurns_39 : decode cX11_nobodyTurns 39 = .ok (.iconst 0, 1) := by decide +kernel
theorem dX11_nobodyTurns_40 : decode cX11_nobodyTurns 40 = .ok (.ireturn, 1) := by decide +kernel
theorem dX11_nobodyTurns_41 : decode cX11_nobodyTurns 41 = .ok (.iinc 4 1, 3) := by decide +kernel
theorem dX11_nobodyTurns_44 : decode cX11_nobodyTurns 44 = .ok (.goto (-26), 3) := by decide +kernel
theorem dX11_nobodyTurns_47 : decode cX11_nobodyTurns 47 = .ok (.iinc 3 1, 3) := by decide +kernel
theorem dX11_nobodyTurns_50 : decode cX11_nobodyTurns 50 = .ok (.goto (-41), 3) := by decide +kernel
theorem dX11_nobodyTurns_53 : decode cX11_nobodyTurns 53 = .ok (.iinc 2 1, 3) := by decide +kernel
theorem dX11_nobodyTurns_56 : decode cX11_nobodyTurns 56 = .ok (.goto (-54), 3) := by decide +kernel
theorem dX11_nobodyTurns_59 : decode cX11_nobodyTurns 59 = .ok (.iconst 1, 1) := by decide +kernel
theorem dX11_nobodyTurns_60 : decode cX11_nobodyTurns 60 = .ok (.ireturn, 1) := by decide +kernel
theorem dX11_least_0 : decode cX11_least 0 = .ok (.aload_n 0, 1) := by decide +kernel
theorem dX11_least_1 : decode cX11_least 1 = .ok (.iload_n 1, 1) := by decide +kernel
theorem dX11_least_2 : decode cX11_least 2 = .ok (.iload_n 2, 1) := by decide +kernel
theorem dX11_least_3 : decode cX11_least 3 = .ok (.iload 4, 2) := by decide +kernel
theorem dX11_least_5 : decode cX11_least 5 = .ok (.invokevirtual 461, 3) := by decide +kernel
theorem dX11_least_8 : decode cX11_least 8 = .ok (.ifCond .eq 13, 3) := by decide +kernel
theorem dX11_least_11 : decode cX11_least 11 = .ok (.iload_n 3, 1) := by decide +kernel
theorem dX11_least_12 : decode cX11_least 12 = .ok (.iconst 1, 1) := by decide +kernel
theorem dX11_least_13 : decode cX11_least 13 = .ok (.bipush 60, 2) := by decide +kernel
theorem dX11_least_15 : decode cX11_least 15 = .ok (.invokestatic 122, 3) := by decide +kernel
theorem dX11_least_18 : decode cX11_least 18 = .ok (.ifCond .ne 5, 3) := by decide +kernel
theorem dX11_least_21 : decode cX11_least 21 = .ok (.iconst (-1), 1) := by decide +kernel
theorem dX11_least_22 : decode cX11_least 22 = .ok (.ireturn, 1) := by decide +kernel
theorem dX11_least_23 : decode cX11_least 23 = .ok (.iconst 0, 1) := by decide +kernel
theorem dX11_least_24 : decode cX11_least 24 = .ok (.istore 5, 2) := by decide +kernel
theorem dX11_least_26 : decode cX11_least 26 = .ok (.iload 5, 2) := by decide +kernel
theorem dX11_least_28 : decode cX11_least 28 = .ok (.bipush 100, 2) := by decide +kernel
theorem dX11_least_30 : decode cX11_least 30 = .ok (.if_icmp .ge 31, 3) := by decide +kernel
theorem dX11_least_33 : decode cX11_least 33 = .ok (.aload_n 0, 1) := by decide +kernel
theorem dX11_least_34 : decode cX11_least 34 = .ok (.iload_n 1, 1) := by decide +kernel
theorem dX11_least_35 : decode cX11_least 35 = .ok (.iload_n 2, 1) := by decide +kernel
theorem dX11_least_36 : decode cX11_least 36 = .ok (.iload 4, 2) := by decide +kernel
theorem dX11_least_38 : decode cX11_least 38 = .ok (.iload 5, 2) := by decide +kernel
theorem dX11_least_40 : decode cX11_least 40 = .ok (.iload_n 3, 1) := by decide +kernel
theorem dX11_least_41 : decode cX11_least 41 = .ok (.invokevirtual 467, 3) := by decide +kernel
theorem dX11_least_44 : decode cX11_least 44 = .ok (.aload_n 0, 1) := by decide +kernel
theorem dX11_least_45 : decode cX11_least 45 = .ok (.iload_n 3, 1) := by decide +kernel
theorem dX11_least_46 : decode cX11_least 46 = .ok (.invokevirtual 475, 3) := by decide +kernel
theorem dX11_least_49 : decode cX11_least 49 = .ok (.ifCond .eq 6, 3) := by decide +kernel
theorem dX11_least_52 : decode cX11_least 52 = .ok (.iload 5, 2) := by decide +kernel
theorem dX11_least_54 : decode cX11_least 54 = .ok (.ireturn, 1) := by decide +kernel
theorem dX11_least_55 : decode cX11_least 55 = .ok (.iinc 5 1, 3) := by decide +kernel
theorem dX11_least_58 : decode cX11_least 58 = .ok (.goto (-32), 3) := by decide +kernel
theorem dX11_least_61 : decode cX11_least 61 = .ok (.iconst (-1), 1) := by decide +kernel
theorem dX11_least_62 : decode cX11_least 62 = .ok (.ireturn, 1) := by decide +kernel
theorem dX11_send_0 : decode cX11_send 0 = .ok (.aload_n 0, 1) := by decide +kernel
theorem dX11_send_1 : decode cX11_send 1 = .ok (.iload_n 1, 1) := by decide +kernel
theorem dX11_send_2 : decode cX11_send 2 = .ok (.iload_n 2, 1) := by decide +kernel
theorem dX11_send_3 : decode cX11_send 3 = .ok (.iload 4, 2) := by decide +kernel
theorem dX11_send_5 : decode cX11_send 5 = .ok (.invokevirtual 461, 3) := by decide +kernel
theorem dX11_send_8 : decode cX11_send 8 = .ok (.ifCond .eq 38, 3) := by decide +kernel
theorem dX11_send_11 : decode cX11_send 11 = .ok (.iload_n 3, 1) := by decide +kernel
theorem dX11_send_12 : decode cX11_send 12 = .ok (.invokestatic 464, 3) := by decide +kernel
theorem dX11_send_15 : decode cX11_send 15 = .ok (.ifCond .eq 31, 3) := by decide +kernel
theorem dX11_send_18 : decode cX11_send 18 = .ok (.iload_n 3, 1) := by decide +kernel
theorem dX11_send_19 : decode cX11_send 19 = .ok (.bipush 100, 2) := by decide +kernel
theorem dX11_send_21 : decode cX11_send 21 = .ok (.idiv, 1) := by decide +kernel
theorem dX11_send_22 : decode cX11_send 22 = .ok (.bipush 100, 2) := by decide +kernel
theorem dX11_send_24 : decode cX11_send 24 = .ok (.irem, 1) := by decide +kernel
theorem dX11_send_25 : decode cX11_send 25 = .ok (.iload_n 3, 1) := by decide +kernel
theorem dX11_send_26 : decode cX11_send 26 = .ok (.bipush 100, 2) := by decide +kernel
theorem dX11_send_28 : decode cX11_send 28 = .ok (.irem, 1) := by decide +kernel
theorem dX11_send_29 : decode cX11_send 29 = .ok (.iadd, 1) := by decide +kernel
theorem dX11_send_30 : decode cX11_send 30 = .ok (.bipush 12, 2) := by decide +kernel
theorem dX11_send_32 : decode cX11_send 32 = .ok (.if_icmp .ge 14, 3) := by decide +kernel
theorem dX11_send_35 : decode cX11_send 35 = .ok (.iload 5, 2) := by decide +kernel
theorem dX11_send_37 : decode cX11_send 37 = .ok (.iconst 0, 1) := by decide +kernel
theorem dX11_send_38 : decode cX11_send 38 = .ok (.bipush 99, 2) := by decide +kernel
theorem dX11_send_40 : decode cX11_send 40 = .ok (.invokestatic 122, 3) := by decide +kernel
theorem dX11_send_43 : decode cX11_send 43 = .ok (.ifCond .ne 7, 3) := by decide +kernel
theorem dX11_send_46 : decode cX11_send 46 = .ok (.ldc_w 284, 3) := by decide +kernel
theorem dX11_send_49 : decode cX11_send 49 = .ok (.ireturn, 1) := by decide +kernel
theorem dX11_send_50 : decode cX11_send 50 = .ok (.iload_n 3, 1) := by decide +kernel
theorem dX11_send_51 : decode cX11_send 51 = .ok (.sipush 10000, 3) := by decide +kernel
theorem dX11_send_54 : decode cX11_send 54 = .ok (.idiv, 1) := by decide +kernel
theorem dX11_send_55 : decode cX11_send 55 = .ok (.istore 6, 2) := by decide +kernel
theorem dX11_send_57 : decode cX11_send 57 = .ok (.iload_n 3, 1) := by decide +kernel
theorem dX11_send_58 : decode cX11_send 58 = .ok (.bipush 100, 2) := by decide +kernel
theorem dX11_send_60 : decode cX11_send 60 = .ok (.idiv, 1) := by decide +kernel
theorem dX11_send_61 : decode cX11_send 61 = .ok (.bipush 100, 2) := by decide +kernel
theorem dX11_send_63 : decode cX11_send 63 = .ok (.irem, 1) := by decide +kernel
theorem dX11_send_64 : decode cX11_send 64 = .ok (.istore 7, 2) := by decide +kernel
theorem dX11_send_66 : decode cX11_send 66 = .ok (.iload_n 3, 1) := by decide +kernel
theorem dX11_send_67 : decode cX11_send 67 = .ok (.bipush 100, 2) := by decide +kernel
theorem dX11_send_69 : decode cX11_send 69 = .ok (.irem, 1) := by decide +kernel
theorem dX11_send_70 : decode cX11_send 70 = .ok (.istore 8, 2) := by decide +kernel
theorem dX11_send_72 : decode cX11_send 72 = .ok (.aload_n 0, 1) := by decide +kernel
theorem dX11_send_73 : decode cX11_send 73 = .ok (.iload_n 1, 1) := by decide +kernel
theorem dX11_send_74 : decode cX11_send 74 = .ok (.iload_n 2, 1) := by decide +kernel
theorem dX11_send_75 : decode cX11_send 75 = .ok (.iload 4, 2) := by decide +kernel
theorem dX11_send_77 : decode cX11_send 77 = .ok (.aload_n 0, 1) := by decide +kernel
theorem dX11_send_78 : decode cX11_send 78 = .ok (.getfield 297, 3) := by decide +kernel
theorem dX11_send_81 : decode cX11_send 81 = .ok (.iload 6, 2) := by decide +kernel
theorem dX11_send_83 : decode cX11_send 83 = .ok (.invokevirtual 467, 3) := by decide +kernel
theorem dX11_send_86 : decode cX11_send 86 = .ok (.aload_n 0, 1) := by decide +kernel
theorem dX11_send_87 : decode cX11_send 87 = .ok (.iload 6, 2) := by decide +kernel
theorem dX11_send_89 : decode cX11_send 89 = .ok (.iload 7, 2) := by decide +kernel
theorem dX11_send_91 : decode cX11_send 91 = .ok (.iload 8, 2) := by decide +kernel
theorem dX11_send_93 : decode cX11_send 93 = .ok (.iadd, 1) := by decide +kernel
theorem dX11_send_94 : decode cX11_send 94 = .ok (.iconst 1, 1) := by decide +kernel
theorem dX11_send_95 : decode cX11_send 95 = .ok (.iadd, 1) := by decide +kernel
theorem dX11_send_96 : decode cX11_send 96 = .ok (.iconst 0, 1) := by decide +kernel
theorem dX11_send_97 : decode cX11_send 97 = .ok (.invokevirtual 433, 3) := by decide +kernel
theorem dX11_send_100 : decode cX11_send 100 = .ok (.sipush 1000, 3) := by decide +kernel
theorem dX11_send_103 : decode cX11_send 103 = .ok (.aload_n 0, 1) := by decide +kernel
theorem dX11_send_104 : decode cX11_send 104 = .ok (.getfield 297, 3) := by decide +kernel
theorem dX11_send_107 : decode cX11_send 107 = .ok (.iload 5, 2) := by decide +kernel
theorem dX11_send_109 : decode cX11_send 109 = .ok (.iadd, 1) := by decide +kernel
theorem dX11_send_110 : decode cX11_send 110 = .ok (.imul, 1) := by decide +kernel
theorem dX11_send_111 : decode cX11_send 111 = .ok (.isub, 1) := by decide +kernel
theorem dX11_send_112 : decode cX11_send 112 = .ok (.aload_n 0, 1) := by decide +kernel
theorem dX11_send_113 : decode cX11_send 113 = .ok (.iload 6, 2) := by decide +kernel
theorem dX11_send_115 : decode cX11_send 115 = .ok (.iload 7, 2) := by decide +kernel
theorem dX11_send_117 : decode cX11_send 117 = .ok (.iload 8, 2) := by decide +kernel
theorem dX11_send_119 : decode cX11_send 119 = .ok (.invokevirtual 433, 3) := by decide +kernel
theorem dX11_send_122 : decode cX11_send 122 = .ok (.isub, 1) := by decide +kernel
theorem dX11_send_123 : decode cX11_send 123 = .ok (.ireturn, 1) := by decide +kernel
theorem dX11_out_0 : decode cX11_out 0 = .ok (.iload_n 1, 1) := by decide +kernel
theorem dX11_out_1 : decode cX11_out 1 = .ok (.iconst 0, 1) := by decide +kernel
theorem dX11_out_2 : decode cX11_out 2 = .ok (.iconst 2, 1) := by decide +kernel
theorem dX11_out_3 : decode cX11_out 3 = .ok (.invokestatic 122, 3) := by decide +kernel
theorem dX11_out_6 : decode cX11_out 6 = .ok (.ifCond .eq 23, 3) := by decide +kernel
theorem dX11_out_9 : decode cX11_out 9 = .ok (.iload_n 2, 1) := by decide +kernel
theorem dX11_out_10 : decode cX11_out 10 = .ok (.iconst 0, 1) := by decide +kernel
theorem dX11_out_11 : decode cX11_out 11 = .ok (.bipush 12, 2) := by decide +kernel
theorem dX11_out_13 : decode cX11_out 13 = .ok (.invokestatic 122, 3) := by decide +kernel
theorem dX11_out_16 : decode cX11_out 16 = .ok (.ifCond .eq 13, 3) := by decide +kernel
theorem dX11_out_19 : decode cX11_out 19 = .ok (.iload_n 3, 1) := by decide +kernel
theorem dX11_out_20 : decode cX11_out 20 = .ok (.iconst 0, 1) := by decide +kernel
theorem dX11_out_21 : decode cX11_out 21 = .ok (.bipush 12, 2) := by decide +kernel
theorem dX11_out_23 : decode cX11_out 23 = .ok (.invokestatic 122, 3) := by decide +kernel
theorem dX11_out_26 : decode cX11_out 26 = .ok (.ifCond .ne 5, 3) := by decide +kernel
theorem dX11_out_29 : decode cX11_out 29 = .ok (.iconst (-1), 1) := by decide +kernel
theorem dX11_out_30 : decode cX11_out 30 = .ok (.ireturn, 1) := by decide +kernel
theorem dX11_out_31 : decode cX11_out 31 = .ok (.iconst 0, 1) := by decide +kernel
theorem dX11_out_32 : decode cX11_out 32 = .ok (.istore 4, 2) := by decide +kernel
theorem dX11_out_34 : decode cX11_out 34 = .ok (.iload_n 2, 1) := by decide +kernel
theorem dX11_out_35 : decode cX11_out 35 = .ok (.istore 5, 2) := by decide +kernel
theorem dX11_out_37 : decode cX11_out 37 = .ok (.iload 5, 2) := by decide +kernel
theorem dX11_out_39 : decode cX11_out 39 = .ok (.ifCond .le 80, 3) := by decide +kernel
theorem dX11_out_42 : decode cX11_out 42 = .ok (.iload_n 2, 1) := by decide +kernel
theorem dX11_out_43 : decode cX11_out 43 = .ok (.iload 5, 2) := by decide +kernel
theorem dX11_out_45 : decode cX11_out 45 = .ok (.isub, 1) := by decide +kernel
theorem dX11_out_46 : decode cX11_out 46 = .ok (.iload_n 3, 1) := by decide +kernel
theorem dX11_out_47 : decode cX11_out 47 = .ok (.if_icmp .ge 72, 3) := by decide +kernel
theorem dX11_out_50 : decode cX11_out 50 = .ok (.iload_n 1, 1) := by decide +kernel
theorem dX11_out_51 : decode cX11_out 51 = .ok (.iload 5, 2) := by decide +kernel
theorem dX11_out_53 : decode cX11_out 53 = .ok (.invokestatic 386, 3) := by decide +kernel
theorem dX11_out_56 : decode cX11_out 56 = .ok (.istore 6, 2) := by decide +kernel
theorem dX11_out_58 : decode cX11_out 58 = .ok (.iconst 0, 1) := by decide +kernel
theorem dX11_out_59 : decode cX11_out 59 = .ok (.istore 7, 2) := by decide +kernel
theorem dX11_out_61 : decode cX11_out 61 = .ok (.iload 4, 2) := by decide +kernel
theorem dX11_out_63 : decode cX11_out 63 = .ok (.iload 7, 2) := by decide +kernel
theorem dX11_out_65 : decode cX11_out 65 = .ok (.ishr, 1) := by decide +kernel
theorem dX11_out_66 : decode cX11_out 66 = .ok (.iconst 1, 1) := by decide +kernel
theorem dX11_out_67 : decode cX11_out 67 = .ok (.iand, 1) := by decide +kernel
theorem dX11_out_68 : decode cX11_out 68 = .ok (.iconst 1, 1) := by decide +kernel
theorem dX11_out_69 : decode cX11_out 69 = .ok (.if_icmp .eq 8, 3) := by decide +kernel
theorem dX11_out_72 : decode cX11_out 72 = .ok (.iload 6, 2) := by decide +kernel
theorem dX11_out_74 : decode cX11_out 74 = .ok (.ifCond .le 30, 3) := by decide +kernel
theorem dX11_out_77 : decode cX11_out 77 = .ok (.iload 6, 2) := by decide +kernel
theorem dX11_out_79 : decode cX11_out 79 = .ok (.iload 4, 2) := by decide +kernel
theorem dX11_out_81 : decode cX11_out 81 = .ok (.iload 7, 2) := by decide +kernel
theorem dX11_out_83 : decode cX11_out 83 = .ok (.ishr, 1) := by decide +kernel
theorem dX11_out_84 : decode cX11_out 84 = .ok (.iconst 1, 1) := by decide +kernel
theorem dX11_out_85 : decode cX11_out 85 = .ok (.iand, 1) := by decide +kernel
theorem dX11_out_86 : decode cX11_out 86 = .ok (.iconst 1, 1) := by decide +kernel
theorem dX11_out_87 : decode cX11_out 87 = .ok (.if_icmp .ne 7, 3) := by decide +kernel
theorem dX11_out_90 : decode cX11_out 90 = .ok (.iconst 0, 1) := by decide +kernel
theorem dX11_out_91 : decode cX11_out 91 = .ok (.goto 4, 3) := by decide +kernel
theorem dX11_out_94 : decode cX11_out 94 = .ok (.iconst 1, 1) := by decide +kernel
theorem dX11_out_95 : decode cX11_out 95 = .ok (.isub, 1) := by decide +kernel
theorem dX11_out_96 : decode cX11_out 96 = .ok (.istore 6, 2) := by decide +kernel
theorem dX11_out_98 : decode cX11_out 98 = .ok (.iinc 7 1, 3) := by decide +kernel
theorem dX11_out_101 : decode cX11_out 101 = .ok (.goto (-40), 3) := by decide +kernel
theorem dX11_out_104 : decode cX11_out 104 = .ok (.iload 4, 2) := by decide +kernel
theorem dX11_out_106 : decode cX11_out 106 = .ok (.iconst 1, 1) := by decide +kernel
theorem dX11_out_107 : decode cX11_out 107 = .ok (.iload 7, 2) := by decide +kernel
theorem dX11_out_109 : decode cX11_out 109 = .ok (.ishl, 1) := by decide +kernel
theorem dX11_out_110 : decode cX11_out 110 = .ok (.ior, 1) := by decide +kernel
theorem dX11_out_111 : decode cX11_out 111 = .ok (.istore 4, 2) := by decide +kernel
theorem dX11_out_113 : decode cX11_out 113 = .ok (.iinc 5 (-1), 3) := by decide +kernel
theorem dX11_out_116 : decode cX11_out 116 = .ok (.goto (-79), 3) := by decide +kernel
theorem dX11_out_119 : decode cX11_out 119 = .ok (.iload 4, 2) := by decide +kernel
theorem dX11_out_121 : decode cX11_out 121 = .ok (.ireturn, 1) := by decide +kernel
theorem dX11_keeps_0 : decode cX11_keeps 0 = .ok (.aload_n 0, 1) := by decide +kernel
theorem dX11_keeps_1 : decode cX11_keeps 1 = .ok (.getfield 82, 3) := by decide +kernel
theorem dX11_keeps_4 : decode cX11_keeps 4 = .ok (.aload_n 0, 1) := by decide +kernel
theorem dX11_keeps_5 : decode cX11_keeps 5 = .ok (.getfield 478, 3) := by decide +kernel
theorem dX11_keeps_8 : decode cX11_keeps 8 = .ok (.iload_n 1, 1) := by decide +kernel
theorem dX11_keeps_9 : decode cX11_keeps 9 = .ok (.iastore, 1) := by decide +kernel
theorem dX11_keeps_10 : decode cX11_keeps 10 = .ok (.aload_n 0, 1) := by decide +kernel
theorem dX11_keeps_11 : decode cX11_keeps 11 = .ok (.dup, 1) := by decide +kernel
theorem dX11_keeps_12 : decode cX11_keeps 12 = .ok (.getfield 478, 3) := by decide +kernel
theorem dX11_keeps_15 : decode cX11_keeps 15 = .ok (.iconst 1, 1) := by decide +kernel
theorem dX11_keeps_16 : decode cX11_keeps 16 = .ok (.iadd, 1) := by decide +kernel
theorem dX11_keeps_17 : decode cX11_keeps 17 = .ok (.putfield 478, 3) := by decide +kernel
theorem dX11_keeps_20 : decode cX11_keeps 20 = .ok (.return_, 1) := by decide +kernel
theorem dX11_kept_0 : decode cX11_kept 0 = .ok (.aload_n 0, 1) := by decide +kernel
theorem dX11_kept_1 : decode cX11_kept 1 = .ok (.dup, 1) := by decide +kernel
theorem dX11_kept_2 : decode cX11_kept 2 = .ok (.getfield 478, 3) := by decide +kernel
theorem dX11_kept_5 : decode cX11_kept 5 = .ok (.iconst 1, 1) := by decide +kernel
theorem dX11_kept_6 : decode cX11_kept 6 = .ok (.iadd, 1) := by decide +kernel
theorem dX11_kept_7 : decode cX11_kept 7 = .ok (.putfield 478, 3) := by decide +kernel
theorem dX11_kept_10 : decode cX11_kept 10 = .ok (.aload_n 0, 1) := by decide +kernel
theorem dX11_kept_11 : decode cX11_kept 11 = .ok (.getfield 82, 3) := by decide +kernel
theorem dX11_kept_14 : decode cX11_kept 14 = .ok (.aload_n 0, 1) := by decide +kernel
theorem dX11_kept_15 : decode cX11_kept 15 = .ok (.getfield 478, 3) := by decide +kernel
theorem dX11_kept_18 : decode cX11_kept 18 = .ok (.iconst 1, 1) := by decide +kernel
theorem dX11_kept_19 : decode cX11_kept 19 = .ok (.isub, 1) := by decide +kernel
theorem dX11_kept_20 : decode cX11_kept 20 = .ok (.iaload, 1) := by decide +kernel
theorem dX11_kept_21 : decode cX11_kept 21 = .ok (.ireturn, 1) := by decide +kernel
theorem dX11_image_0 : decode cX11_image 0 = .ok (.aload_n 0, 1) := by decide +kernel
theorem dX11_image_1 : decode cX11_image 1 = .ok (.getfield 288, 3) := by decide +kernel
theorem dX11_image_4 : decode cX11_image 4 = .ok (.ifCond .eq 12, 3) := by decide +kernel
theorem dX11_image_7 : decode cX11_image 7 = .ok (.iload_n 1, 1) := by decide +kernel
theorem dX11_image_8 : decode cX11_image 8 = .ok (.iconst 0, 1) := by decide +kernel
theorem dX11_image_9 : decode cX11_image 9 = .ok (.iconst 2, 1) := by decide +kernel
theorem dX11_image_10 : decode cX11_image 10 = .ok (.invokestatic 122, 3) := by decide +kernel
theorem dX11_image_13 : decode cX11_image 13 = .ok (.ifCond .ne 5, 3) := by decide +kernel
theorem dX11_image_16 : decode cX11_image 16 = .ok (.iconst 0, 1) := by decide +kernel
theorem dX11_image_17 : decode cX11_image 17 = .ok (.ireturn, 1) := by decide +kernel
theorem dX11_image_18 : decode cX11_image 18 = .ok (.aload_n 0, 1) := by decide +kernel
theorem dX11_image_19 : decode cX11_image 19 = .ok (.getfield 79, 3) := by decide +kernel
theorem dX11_image_22 : decode cX11_image 22 = .ok (.iload_n 1, 1) := by decide +kernel
theorem dX11_image_23 : decode cX11_image 23 = .ok (.iconst 1, 1) := by decide +kernel
theorem dX11_image_24 : decode cX11_image 24 = .ok (.bastore, 1) := by decide +kernel
theorem dX11_image_25 : decode cX11_image 25 = .ok (.aload_n 0, 1) := by decide +kernel
theorem dX11_image_26 : decode cX11_image 26 = .ok (.getfield 85, 3) := by decide +kernel
theorem dX11_image_29 : decode cX11_image 29 = .ok (.iload_n 1, 1) := by decide +kernel
theorem dX11_image_30 : decode cX11_image 30 = .ok (.aload_n 0, 1) := by decide +kernel
theorem dX11_image_31 : decode cX11_image 31 = .ok (.getfield 306, 3) := by decide +kernel
theorem dX11_image_34 : decode cX11_image 34 = .ok (.lastore, 1) := by decide +kernel
theorem dX11_image_35 : decode cX11_image 35 = .ok (.aload_n 0, 1) := by decide +kernel
theorem dX11_image_36 : decode cX11_image 36 = .ok (.sipush 446, 3) := by decide +kernel
theorem dX11_image_39 : decode cX11_image 39 = .ok (.iload_n 1, 1) := by decide +kernel
theorem dX11_image_40 : decode cX11_image 40 = .ok (.imul, 1) := by decide +kernel
theorem dX11_image_41 : decode cX11_image 41 = .ok (.putfield 478, 3) := by decide +kernel
theorem dX11_image_44 : decode cX11_image 44 = .ok (.aload_n 0, 1) := by decide +kernel
theorem dX11_image_45 : decode cX11_image 45 = .ok (.aload_n 0, 1) := by decide +kernel
theorem dX11_image_46 : decode cX11_image 46 = .ok (.getfield 301, 3) := by decide +kernel
theorem dX11_image_49 : decode cX11_image 49 = .ok (.invokevirtual 481, 3) := by decide +kernel
theorem dX11_image_52 : decode cX11_image 52 = .ok (.iconst 0, 1) := by decide +kernel
theorem dX11_image_53 : decode cX11_image 53 = .ok (.istore_n 2, 1) := by decide +kernel
theorem dX11_image_54 : decode cX11_image 54 = .ok (.iload_n 2, 1) := by decide +kernel
theorem dX11_image_55 : decode cX11_image 55 = .ok (.iconst 3, 1) := by decide +kernel
theorem dX11_image_56 : decode cX11_image 56 = .ok (.if_icmp .ge 39, 3) := by decide +kernel
theorem dX11_image_59 : decode cX11_image 59 = .ok (.aload_n 0, 1) := by decide +kernel
theorem dX11_image_60 : decode cX11_image 60 = .ok (.aload_n 0, 1) := by decide +kernel
theorem dX11_image_61 : decode cX11_image 61 = .ok (.getfield 52, 3) := by decide +kernel
theorem dX11_image_64 : decode cX11_image 64 = .ok (.iload_n 2, 1) := by decide +kernel
theorem dX11_image_65 : decode cX11_image 65 = .ok (.iaload, 1) := by decide +kernel
theorem dX11_image_66 : decode cX11_image 66 = .ok (.invokevirtual 481, 3) := by decide +kernel
theorem dX11_image_69 : decode cX11_image 69 = .ok (.aload_n 0, 1) := by decide +kernel
theorem dX11_image_70 : decode cX11_image 70 = .ok (.aload_n 0, 1) := by decide +kernel
theorem dX11_image_71 : decode cX11_image 71 = .ok (.getfield 55, 3) := by decide +kernel
theorem dX11_image_74 : decode cX11_image 74 = .ok (.iload_n 2, 1) := by decide +kernel
theorem dX11_image_75 : decode cX11_image 75 = .ok (.iaload, 1) := by decide +kernel
theorem dX11_image_76 : decode cX11_image 76 = .ok (.invokevirtual 481, 3) := by decide +kernel
theorem dX11_image_79 : decode cX11_image 79 = .ok (.aload_n 0, 1) := by decide +kernel
theorem dX11_image_80 : decode cX11_image 80 = .ok (.aload_n 0, 1) := by decide +kernel
theorem dX11_image_81 : decode cX11_image 81 = .ok (.getfield 58, 3) := by decide +kernel
theorem dX11_image_84 : decode cX11_image 84 = .ok (.iload_n 2, 1) := by decide +kernel
theorem dX11_image_85 : decode cX11_image 85 = .ok (.iaload, 1) := by decide +kernel
theorem dX11_image_86 : decode cX11_image 86 = .ok (.invokevirtual 481, 3) := by decide +kernel
theorem dX11_image_89 : decode cX11_image 89 = .ok (.iinc 2 1, 3) := by decide +kernel
theorem dX11_image_92 : decode cX11_image 92 = .ok (.goto (-38), 3) := by decide +kernel
theorem dX11_image_95 : decode cX11_image 95 = .ok (.iconst 0, 1) := by decide +kernel
theorem dX11_image_96 : decode cX11_image 96 = .ok (.istore_n 2, 1) := by decide +kernel
theorem dX11_image_97 : decode cX11_image 97 = .ok (.iload_n 2, 1) := by decide +kernel
theorem dX11_image_98 : decode cX11_image 98 = .ok (.bipush 90, 2) := by decide +kernel
theorem dX11_image_100 : decode cX11_image 100 = .ok (.if_icmp .ge 19, 3) := by decide +kernel
theorem dX11_image_103 : decode cX11_image 103 = .ok (.aload_n 0, 1) := by decide +kernel
theorem dX11_image_104 : decode cX11_image 104 = .ok (.aload_n 0, 1) := by decide +kernel
theorem dX11_image_105 : decode cX11_image 105 = .ok (.getfield 61, 3) := by decide +kernel
theorem dX11_image_108 : decode cX11_image 108 = .ok (.iload_n 2, 1) := by decide +kernel
theorem dX11_image_109 : decode cX11_image 109 = .ok (.iaload, 1) := by decide +kernel
theorem dX11_image_110 : decode cX11_image 110 = .ok (.invokevirtual 481, 3) := by decide +kernel
theorem dX11_image_113 : decode cX11_image 113 = .ok (.iinc 2 1, 3) := by decide +kernel
theorem dX11_image_116 : decode cX11_image 116 = .ok (.goto (-19), 3) := by decide +kernel
theorem dX11_image_119 : decode cX11_image 119 = .ok (.iconst 0, 1) := by decide +kernel
theorem dX11_image_120 : decode cX11_image 120 = .ok (.istore_n 2, 1) := by decide +kernel
theorem dX11_image_121 : decode cX11_image 121 = .ok (.iload_n 2, 1) := by decide +kernel
theorem dX11_image_122 : decode cX11_image 122 = .ok (.sipush 210, 3) := by decide +kernel
theorem dX11_image_125 : decode cX11_image 125 = .ok (.if_icmp .ge 19, 3) := by decide +kernel
theorem dX11_image_128 : decode cX11_image 128 = .ok (.aload_n 0, 1) := by decide +kernel
theorem dX11_image_129 : decode cX11_image 129 = .ok (.aload_n 0, 1) := by decide +kernel
theorem dX11_image_130 : decode cX11_image 130 = .ok (.getfield 64, 3) := by decide +kernel
theorem dX11_image_133 : decode cX11_image 133 = .ok (.iload_n 2, 1) := by decide +kernel
theorem dX11_image_134 : decode cX11_image 134 = .ok (.iaload, 1) := by decide +kernel
theorem dX11_image_135 : decode cX11_image 135 = .ok (.invokevirtual 481, 3) := by decide +kernel
theorem dX11_image_138 : decode cX11_image 138 = .ok (.iinc 2 1, 3) := by decide +kernel
theorem dX11_image_141 : decode cX11_image 141 = .ok (.goto (-20), 3) := by decide +kernel
theorem dX11_image_144 : decode cX11_image 144 = .ok (.iconst 0, 1) := by decide +kernel
theorem dX11_image_145 : decode cX11_image 145 = .ok (.istore_n 2, 1) := by decide +kernel
theorem dX11_image_146 : decode cX11_image 146 = .ok (.iload_n 2, 1) := by decide +kernel
theorem dX11_image_147 : decode cX11_image 147 = .ok (.bipush 35, 2) := by decide +kernel
theorem dX11_image_149 : decode cX11_image 149 = .ok (.if_icmp .ge 19, 3) := by decide +kernel
theorem dX11_image_152 : decode cX11_image 152 = .ok (.aload_n 0, 1) := by decide +kernel
theorem dX11_image_153 : decode cX11_image 153 = .ok (.aload_n 0, 1) := by decide +kernel
theorem dX11_image_154 : decode cX11_image 154 = .ok (.getfield 67, 3) := by decide +kernel
theorem dX11_image_157 : decode cX11_image 157 = .ok (.iload_n 2, 1) := by decide +kernel
theorem dX11_image_158 : decode cX11_image 158 = .ok (.iaload, 1) := by decide +kernel
theorem dX11_image_159 : decode cX11_image 159 = .ok (.invokevirtual 481, 3) := by decide +kernel
theorem dX11_image_162 : decode cX11_image 162 = .ok (.iinc 2 1, 3) := by decide +kernel
theorem dX11_image_165 : decode cX11_image 165 = .ok (.goto (-19), 3) := by decide +kernel
theorem dX11_image_168 : decode cX11_image 168 = .ok (.aload_n 0, 1) := by decide +kernel
theorem dX11_image_169 : decode cX11_image 169 = .ok (.aload_n 0, 1) := by decide +kernel
theorem dX11_image_170 : decode cX11_image 170 = .ok (.getfield 303, 3) := by decide +kernel
theorem dX11_image_173 : decode cX11_image 173 = .ok (.invokevirtual 481, 3) := by decide +kernel
theorem dX11_image_176 : decode cX11_image 176 = .ok (.iconst 0, 1) := by decide +kernel
theorem dX11_image_177 : decode cX11_image 177 = .ok (.istore_n 2, 1) := by decide +kernel
theorem dX11_image_178 : decode cX11_image 178 = .ok (.iload_n 2, 1) := by decide +kernel
theorem dX11_image_179 : decode cX11_image 179 = .ok (.bipush 100, 2) := by decide +kernel
theorem dX11_image_181 : decode cX11_image 181 = .ok (.if_icmp .ge 19, 3) := by decide +kernel
theorem dX11_image_184 : decode cX11_image 184 = .ok (.aload_n 0, 1) := by decide +kernel
theorem dX11_image_185 : decode cX11_image 185 = .ok (.aload_n 0, 1) := by decide +kernel
theorem dX11_image_186 : decode cX11_image 186 = .ok (.getfield 70, 3) := by decide +kernel
theorem dX11_image_189 : decode cX11_image 189 = .ok (.iload_n 2, 1) := by decide +kernel
theorem dX11_image_190 : decode cX11_image 190 = .ok (.iaload, 1) := by decide +kernel
theorem dX11_image_191 : decode cX11_image 191 = .ok (.invokevirtual 481, 3) := by decide +kernel
theorem dX11_image_194 : decode cX11_image 194 = .ok (.iinc 2 1, 3) := by decide +kernel
theorem dX11_image_197 : decode cX11_image 197 = .ok (.goto (-19), 3) := by decide +kernel
theorem dX11_image_200 : decode cX11_image 200 = .ok (.iconst 1, 1) := by decide +kernel
theorem dX11_image_201 : decode cX11_image 201 = .ok (.ireturn, 1) := by decide +kernel
theorem dX11_on_0 : decode cX11_on 0 = .ok (.iload_n 1, 1) := by decide +kernel
theorem dX11_on_1 : decode cX11_on 1 = .ok (.iconst 0, 1) := by decide +kernel
theorem dX11_on_2 : decode cX11_on 2 = .ok (.iconst 2, 1) := by decide +kernel
theorem dX11_on_3 : decode cX11_on 3 = .ok (.invokestatic 122, 3) := by decide +kernel
theorem dX11_on_6 : decode cX11_on 6 = .ok (.ifCond .eq 12, 3) := by decide +kernel
theorem dX11_on_9 : decode cX11_on 9 = .ok (.aload_n 0, 1) := by decide +kernel
theorem dX11_on_10 : decode cX11_on 10 = .ok (.getfield 79, 3) := by decide +kernel
theorem dX11_on_13 : decode cX11_on 13 = .ok (.iload_n 1, 1) := by decide +kernel
theorem dX11_on_14 : decode cX11_on 14 = .ok (.baload, 1) := by decide +kernel
theorem dX11_on_15 : decode cX11_on 15 = .ok (.ifCond .ne 5, 3) := by decide +kernel
theorem dX11_on_18 : decode cX11_on 18 = .ok (.iconst 0, 1) := by decide +kernel
theorem dX11_on_19 : decode cX11_on 19 = .ok (.ireturn, 1) := by decide +kernel
theorem dX11_on_20 : decode cX11_on 20 = .ok (.aload_n 0, 1) := by decide +kernel
theorem dX11_on_21 : decode cX11_on 21 = .ok (.aload_n 0, 1) := by decide +kernel
theorem dX11_on_22 : decode cX11_on 22 = .ok (.getfield 85, 3) := by decide +kernel
theorem dX11_on_25 : decode cX11_on 25 = .ok (.iload_n 1, 1) := by decide +kernel
theorem dX11_on_26 : decode cX11_on 26 = .ok (.laload, 1) := by decide +kernel
theorem dX11_on_27 : decode cX11_on 27 = .ok (.putfield 306, 3) := by decide +kernel
theorem dX11_on_30 : decode cX11_on 30 = .ok (.aload_n 0, 1) := by decide +kernel
theorem dX11_on_31 : decode cX11_on 31 = .ok (.sipush 446, 3) := by decide +kernel
theorem dX11_on_34 : decode cX11_on 34 = .ok (.iload_n 1, 1) := by decide +kernel
theorem dX11_on_35 : decode cX11_on 35 = .ok (.imul, 1) := by decide +kernel
theorem dX11_on_36 : decode cX11_on 36 = .ok (.putfield 478, 3) := by decide +kernel
theorem dX11_on_39 : decode cX11_on 39 = .ok (.aload_n 0, 1) := by decide +kernel
theorem dX11_on_40 : decode cX11_on 40 = .ok (.aload_n 0, 1) := by decide +kernel
theorem dX11_on_41 : decode cX11_on 41 = .ok (.invokevirtual 484, 3) := by decide +kernel
theorem dX11_on_44 : decode cX11_on 44 = .ok (.putfield 301, 3) := by decide +kernel
theorem dX11_on_47 : decode cX11_on 47 = .ok (.iconst 0, 1) := by decide +kernel
theorem dX11_on_48 : decode cX11_on 48 = .ok (.istore_n 2, 1) := by decide +kernel
theorem dX11_on_49 : decode cX11_on 49 = .ok (.iload_n 2, 1) := by decide +kernel
theorem dX11_on_50 : decode cX11_on 50 = .ok (.iconst 3, 1) := by decide +kernel
theorem dX11_on_51 : decode cX11_on 51 = .ok (.if_icmp .ge 39, 3) := by decide +kernel
theorem dX11_on_54 : decode cX11_on 54 = .ok (.aload_n 0, 1) := by decide +kernel
theorem dX11_on_55 : decode cX11_on 55 = .ok (.getfield 52, 3) := by decide +kernel
theorem dX11_on_58 : decode cX11_on 58 = .ok (.iload_n 2, 1) := by decide +kernel
theorem dX11_on_59 : decode cX11_on 59 = .ok (.aload_n 0, 1) := by decide +kernel
theorem dX11_on_60 : decode cX11_on 60 = .ok (.invokevirtual 484, 3) := by decide +kernel
theorem dX11_on_63 : decode cX11_on 63 = .ok (.iastore, 1) := by decide +kernel
theorem dX11_on_64 : decode cX11_on 64 = .ok (.aload_n 0, 1) := by decide +kernel
theorem dX11_on_65 : decode cX11_on 65 = .ok (.getfield 55, 3) := by decide +kernel
theorem dX11_on_68 : decode cX11_on 68 = .ok (.iload_n 2, 1) := by decide +kernel
theorem dX11_on_69 : decode cX11_on 69 = .ok (.aload_n 0, 1) := by decide +kernel
theorem dX11_on_70 : decode cX11_on 70 = .ok (.invokevirtual 484, 3) := by decide +kernel
theorem dX11_on_73 : decode cX11_on 73 = .ok (.iastore, 1) := by decide +kernel
theorem dX11_on_74 : decode cX11_on 74 = .ok (.aload_n 0, 1) := by decide +kernel
theorem dX11_on_75 : decode cX11_on 75 = .ok (.getfield 58, 3) := by decide +kernel
theorem dX11_on_78 : decode cX11_on 78 = .ok (.iload_n 2, 1) := by decide +kernel
theorem dX11_on_79 : decode cX11_on 79 = .ok (.aload_n 0, 1) := by decide +kernel
theorem dX11_on_80 : decode cX11_on 80 = .ok (.invokevirtual 484, 3) := by decide +kernel
theorem dX11_on_83 : decode cX11_on 83 = .ok (.iastore, 1) := by decide +kernel
theorem dX11_on_84 : decode cX11_on 84 = .ok (.iinc 2 1, 3) := by decide +kernel
theorem dX11_on_87 : decode cX11_on 87 = .ok (.goto (-38), 3) := by decide +kernel
theorem dX11_on_90 : decode cX11_on 90 = .ok (.iconst 0, 1) := by decide +kernel
theorem dX11_on_91 : decode cX11_on 91 = .ok (.istore_n 2, 1) := by decide +kernel
theorem dX11_on_92 : decode cX11_on 92 = .ok (.iload_n 2, 1) := by decide +kernel
theorem dX11_on_93 : decode cX11_on 93 = .ok (.bipush 90, 2) := by decide +kernel
theorem dX11_on_95 : decode cX11_on 95 = .ok (.if_icmp .ge 19, 3) := by decide +kernel
theorem dX11_on_98 : decode cX11_on 98 = .ok (.aload_n 0, 1) := by decide +kernel
theorem dX11_on_99 : decode cX11_on 99 = .ok (.getfield 61, 3) := by decide +kernel
theorem dX11_on_102 : decode cX11_on 102 = .ok (.iload_n 2, 1) := by decide +kernel
theorem dX11_on_103 : decode cX11_on 103 = .ok (.aload_n 0, 1) := by decide +kernel
theorem dX11_on_104 : decode cX11_on 104 = .ok (.invokevirtual 484, 3) := by decide +kernel
theorem dX11_on_107 : decode cX11_on 107 = .ok (.iastore, 1) := by decide +kernel
theorem dX11_on_108 : decode cX11_on 108 = .ok (.iinc 2 1, 3) := by decide +kernel
theorem dX11_on_111 : decode cX11_on 111 = .ok (.goto (-19), 3) := by decide +kernel
theorem dX11_on_114 : decode cX11_on 114 = .ok (.iconst 0, 1) := by decide +kernel
theorem dX11_on_115 : decode cX11_on 115 = .ok (.istore_n 2, 1) := by decide +kernel
theorem dX11_on_116 : decode cX11_on 116 = .ok (.iload_n 2, 1) := by decide +kernel
theorem dX11_on_117 : decode cX11_on 117 = .ok (.sipush 210, 3) := by decide +kernel
theorem dX11_on_120 : decode cX11_on 120 = .ok (.if_icmp .ge 19, 3) := by decide +kernel
theorem dX11_on_123 : decode cX11_on 123 = .ok (.aload_n 0, 1) := by decide +kernel
theorem dX11_on_124 : decode cX11_on 124 = .ok (.getfield 64, 3) := by decide +kernel
theorem dX11_on_127 : decode cX11_on 127 = .ok (.iload_n 2, 1) := by decide +kernel
theorem dX11_on_128 : decode cX11_on 128 = .ok (.aload_n 0, 1) := by decide +kernel
theorem dX11_on_129 : decode cX11_on 129 = .ok (.invokevirtual 484, 3) := by decide +kernel
theorem dX11_on_132 : decode cX11_on 132 = .ok (.iastore, 1) := by decide +kernel
theorem dX11_on_133 : decode cX11_on 133 = .ok (.iinc 2 1, 3) := by decide +kernel
theorem dX11_on_136 : decode cX11_on 136 = .ok (.goto (-20), 3) := by decide +kernel
theorem dX11_on_139 : decode cX11_on 139 = .ok (.iconst 0, 1) := by decide +kernel
theorem dX11_on_140 : decode cX11_on 140 = .ok (.istore_n 2, 1) := by decide +kernel
theorem dX11_on_141 : decode cX11_on 141 = .ok (.iload_n 2, 1) := by decide +kernel
theorem dX11_on_142 : decode cX11_on 142 = .ok (.bipush 35, 2) := by decide +kernel
theorem dX11_on_144 : decode cX11_on 144 = .ok (.if_icmp .ge 19, 3) := by decide +kernel
theorem dX11_on_147 : decode cX11_on 147 = .ok (.aload_n 0, 1) := by decide +kernel
theorem dX11_on_148 : decode cX11_on 148 = .ok (.getfield 67, 3) := by decide +kernel
theorem dX11_on_151 : decode cX11_on 151 = .ok (.iload_n 2, 1) := by decide +kernel
theorem dX11_on_152 : decode cX11_on 152 = .ok (.aload_n 0, 1) := by decide +kernel
theorem dX11_on_153 : decode cX11_on 153 = .ok (.invokevirtual 484, 3) := by decide +kernel
theorem dX11_on_156 : decode cX11_on 156 = .ok (.iastore, 1) := by decide +kernel
theorem dX11_on_157 : decode cX11_on 157 = .ok (.iinc 2 1, 3) := by decide +kernel
theorem dX11_on_160 : decode cX11_on 160 = .ok (.goto (-19), 3) := by decide +kernel
theorem dX11_on_163 : decode cX11_on 163 = .ok (.aload_n 0, 1) := by decide +kernel
theorem dX11_on_164 : decode cX11_on 164 = .ok (.aload_n 0, 1) := by decide +kernel
theorem dX11_on_165 : decode cX11_on 165 = .ok (.invokevirtual 484, 3) := by decide +kernel
theorem dX11_on_168 : decode cX11_on 168 = .ok (.putfield 303, 3) := by decide +kernel
theorem dX11_on_171 : decode cX11_on 171 = .ok (.iconst 0, 1) := by decide +kernel
theorem dX11_on_172 : decode cX11_on 172 = .ok (.istore_n 2, 1) := by decide +kernel
theorem dX11_on_173 : decode cX11_on 173 = .ok (.iload_n 2, 1) := by decide +kernel
theorem dX11_on_174 : decode cX11_on 174 = .ok (.bipush 100, 2) := by decide +kernel
theorem dX11_on_176 : decode cX11_on 176 = .ok (.if_icmp .ge 19, 3) := by decide +kernel
theorem dX11_on_179 : decode cX11_on 179 = .ok (.aload_n 0, 1) := by decide +kernel
theorem dX11_on_180 : decode cX11_on 180 = .ok (.getfield 70, 3) := by decide +kernel
theorem dX11_on_183 : decode cX11_on 183 = .ok (.iload_n 2, 1) := by decide +kernel
theorem dX11_on_184 : decode cX11_on 184 = .ok (.aload_n 0, 1) := by decide +kernel
theorem dX11_on_185 : decode cX11_on 185 = .ok (.invokevirtual 484, 3) := by decide +kernel
theorem dX11_on_188 : decode cX11_on 188 = .ok (.iastore, 1) := by decide +kernel
theorem dX11_on_189 : decode cX11_on 189 = .ok (.iinc 2 1, 3) := by decide +kernel
theorem dX11_on_192 : decode cX11_on 192 = .ok (.goto (-19), 3) := by decide +kernel
theorem dX11_on_195 : decode cX11_on 195 = .ok (.iconst 1, 1) := by decide +kernel
theorem dX11_on_196 : decode cX11_on 196 = .ok (.ireturn, 1) := by decide +kernel
theorem dX11_count_0 : decode cX11_count 0 = .ok (.iconst 0, 1) := by decide +kernel
theorem dX11_count_1 : decode cX11_count 1 = .ok (.istore_n 2, 1) := by decide +kernel
theorem dX11_count_2 : decode cX11_count 2 = .ok (.iload_n 1, 1) := by decide +kernel
theorem dX11_count_3 : decode cX11_count 3 = .ok (.tableswitch 139 0 9 #[53, 58, 63, 68, 73, 78, 83, 88, 129, 134], 53) := by decide +kernel
theorem dX11_count_56 : decode cX11_count 56 = .ok (.aload_n 0, 1) := by decide +kernel
theorem dX11_count_57 : decode cX11_count 57 = .ok (.getfield 288, 3) := by decide +kernel
theorem dX11_count_60 : decode cX11_count 60 = .ok (.ireturn, 1) := by decide +kernel
theorem dX11_count_61 : decode cX11_count 61 = .ok (.aload_n 0, 1) := by decide +kernel
theorem dX11_count_62 : decode cX11_count 62 = .ok (.getfield 291, 3) := by decide +kernel
theorem dX11_count_65 : decode cX11_count 65 = .ok (.ireturn, 1) := by decide +kernel
theorem dX11_count_66 : decode cX11_count 66 = .ok (.aload_n 0, 1) := by decide +kernel
theorem dX11_count_67 : decode cX11_count 67 = .ok (.getfield 301, 3) := by decide +kernel
theorem dX11_count_70 : decode cX11_count 70 = .ok (.ireturn, 1) := by decide +kernel
theorem dX11_count_71 : decode cX11_count 71 = .ok (.aload_n 0, 1) := by decide +kernel
theorem dX11_count_72 : decode cX11_count 72 = .ok (.getfield 294, 3) := by decide +kernel
theorem dX11_count_75 : decode cX11_count 75 = .ok (.ireturn, 1) := by decide +kernel
theorem dX11_count_76 : decode cX11_count 76 = .ok (.aload_n 0, 1) := by decide +kernel
theorem dX11_count_77 : decode cX11_count 77 = .ok (.getfield 297, 3) := by decide +kernel
theorem dX11_count_80 : decode cX11_count 80 = .ok (.ireturn, 1) := by decide +kernel
theorem dX11_count_81 : decode cX11_count 81 = .ok (.aload_n 0, 1) := by decide +kernel
theorem dX11_count_82 : decode cX11_count 82 = .ok (.getfield 299, 3) := by decide +kernel
theorem dX11_count_85 : decode cX11_count 85 = .ok (.ireturn, 1) := by decide +kernel
theorem dX11_count_86 : decode cX11_count 86 = .ok (.aload_n 0, 1) := by decide +kernel
theorem dX11_count_87 : decode cX11_count 87 = .ok (.getfield 285, 3) := by decide +kernel
theorem dX11_count_90 : decode cX11_count 90 = .ok (.ireturn, 1) := by decide +kernel
theorem dX11_count_91 : decode cX11_count 91 = .ok (.iconst 0, 1) := by decide +kernel
theorem dX11_count_92 : decode cX11_count 92 = .ok (.istore_n 3, 1) := by decide +kernel
theorem dX11_count_93 : decode cX11_count 93 = .ok (.iload_n 3, 1) := by decide +kernel
theorem dX11_count_94 : decode cX11_count 94 = .ok (.bipush 30, 2) := by decide +kernel
theorem dX11_count_96 : decode cX11_count 96 = .ok (.if_icmp .ge 34, 3) := by decide +kernel
theorem dX11_count_99 : decode cX11_count 99 = .ok (.aload_n 0, 1) := by decide +kernel
theorem dX11_count_100 : decode cX11_count 100 = .ok (.getfield 288, 3) := by decide +kernel
theorem dX11_count_103 : decode cX11_count 103 = .ok (.ifCond .le 27, 3) := by decide +kernel
theorem dX11_count_106 : decode cX11_count 106 = .ok (.iload_n 2, 1) := by decide +kernel
theorem dX11_count_107 : decode cX11_count 107 = .ok (.aload_n 0, 1) := by decide +kernel
theorem dX11_count_108 : decode cX11_count 108 = .ok (.iload_n 3, 1) := by decide +kernel
theorem dX11_count_109 : decode cX11_count 109 = .ok (.iconst 2, 1) := by decide +kernel
theorem dX11_count_110 : decode cX11_count 110 = .ok (.invokevirtual 317, 3) := by decide +kernel
theorem dX11_count_113 : decode cX11_count 113 = .ok (.iconst (-1), 1) := by decide +kernel
theorem dX11_count_114 : decode cX11_count 114 = .ok (.if_icmp .ne 7, 3) := by decide +kernel
theorem dX11_count_117 : decode cX11_count 117 = .ok (.iconst 0, 1) := by decide +kernel
theorem dX11_count_118 : decode cX11_count 118 = .ok (.goto 4, 3) := by decide +kernel
theorem dX11_count_121 : decode cX11_count 121 = .ok (.iconst 1, 1) := by decide +kernel
theorem dX11_count_122 : decode cX11_count 122 = .ok (.iadd, 1) := by decide +kernel
theorem dX11_count_123 : decode cX11_count 123 = .ok (.istore_n 2, 1) := by decide +kernel
theorem dX11_count_124 : decode cX11_count 124 = .ok (.iinc 3 1, 3) := by decide +kernel
theorem dX11_count_127 : decode cX11_count 127 = .ok (.goto (-34), 3) := by decide +kernel
theorem dX11_count_130 : decode cX11_count 130 = .ok (.iload_n 2, 1) := by decide +kernel
theorem dX11_count_131 : decode cX11_count 131 = .ok (.ireturn, 1) := by decide +kernel
theorem dX11_count_132 : decode cX11_count 132 = .ok (.aload_n 0, 1) := by decide +kernel
theorem dX11_count_133 : decode cX11_count 133 = .ok (.getfield 409, 3) := by decide +kernel
theorem dX11_count_136 : decode cX11_count 136 = .ok (.ireturn, 1) := by decide +kernel
theorem dX11_count_137 : decode cX11_count 137 = .ok (.aload_n 0, 1) := by decide +kernel
theorem dX11_count_138 : decode cX11_count 138 = .ok (.getfield 118, 3) := by decide +kernel
theorem dX11_count_141 : decode cX11_count 141 = .ok (.ireturn, 1) := by decide +kernel
theorem dX11_count_142 : decode cX11_count 142 = .ok (.iconst (-1), 1) := by decide +kernel
theorem dX11_count_143 : decode cX11_count 143 = .ok (.ireturn, 1) := by decide +kernel
theorem dJ9_max_7cf53_0 : decode cJ9_max_7cf53 0 = .ok (.iload_n 0, 1) := by decide +kernel
theorem dJ9_max_7cf53_1 : decode cJ9_max_7cf53 1 = .ok (.iload_n 1, 1) := by decide +kernel
theorem dJ9_max_7cf53_2 : decode cJ9_max_7cf53 2 = .ok (.if_icmp .lt 7, 3) := by decide +kernel
theorem dJ9_max_7cf53_5 : decode cJ9_max_7cf53 5 = .ok (.iload_n 0, 1) := by decide +kernel
theorem dJ9_max_7cf53_6 : decode cJ9_max_7cf53 6 = .ok (.goto 4, 3) := by decide +kernel
theorem dJ9_max_7cf53_9 : decode cJ9_max_7cf53 9 = .ok (.iload_n 1, 1) := by decide +kernel
theorem dJ9_max_7cf53_10 : decode cJ9_max_7cf53 10 = .ok (.ireturn, 1) := by decide +kernel
theorem dJ9_min_7cf53_0 : decode cJ9_min_7cf53 0 = .ok (.iload_n 0, 1) := by decide +kernel
theorem dJ9_min_7cf53_1 : decode cJ9_min_7cf53 1 = .ok (.iload_n 1, 1) := by decide +kernel
theorem dJ9_min_7cf53_2 : decode cJ9_min_7cf53 2 = .ok (.if_icmp .gt 7, 3) := by decide +kernel
theorem dJ9_min_7cf53_5 : decode cJ9_min_7cf53 5 = .ok (.iload_n 0, 1) := by decide +kernel
theorem dJ9_min_7cf53_6 : decode cJ9_min_7cf53 6 = .ok (.goto 4, 3) := by decide +kernel
theorem dJ9_min_7cf53_9 : decode cJ9_min_7cf53 9 = .ok (.iload_n 1, 1) := by decide +kernel
theorem dJ9_min_7cf53_10 : decode cJ9_min_7cf53 10 = .ok (.ireturn, 1) := by decide +kernel
theorem dJ0_length_8abf5_0 : decode cJ0_length_8abf5 0 = .ok (.aload_n 0, 1) := by decide +kernel
theorem dJ0_length_8abf5_1 : decode cJ0_length_8abf5 1 = .ok (.getfield 9, 3) := by decide +kernel
theorem dJ0_length_8abf5_4 : decode cJ0_length_8abf5 4 = .ok (.arraylength, 1) := by decide +kernel
theorem dJ0_length_8abf5_5 : decode cJ0_length_8abf5 5 = .ok (.aload_n 0, 1) := by decide +kernel
theorem dJ0_length_8abf5_6 : decode cJ0_length_8abf5 6 = .ok (.invokevirtual 335, 3) := by decide +kernel
theorem dJ0_length_8abf5_9 : decode cJ0_length_8abf5 9 = .ok (.ishr, 1) := by decide +kernel
theorem dJ0_length_8abf5_10 : decode cJ0_length_8abf5 10 = .ok (.ireturn, 1) := by decide +kernel
theorem dJ0_charAt_5068e_0 : decode cJ0_charAt_5068e 0 = .ok (.aload_n 0, 1) := by decide +kernel
theorem dJ0_charAt_5068e_1 : decode cJ0_charAt_5068e 1 = .ok (.invokevirtual 492, 3) := by decide +kernel
theorem dJ0_charAt_5068e_4 : decode cJ0_charAt_5068e 4 = .ok (.ifCond .eq 12, 3) := by decide +kernel
theorem dJ0_charAt_5068e_7 : decode cJ0_charAt_5068e 7 = .ok (.aload_n 0, 1) := by decide +kernel
theorem dJ0_charAt_5068e_8 : decode cJ0_charAt_5068e 8 = .ok (.getfield 9, 3) := by decide +kernel
theorem dJ0_charAt_5068e_11 : decode cJ0_charAt_5068e 11 = .ok (.iload_n 1, 1) := by decide +kernel
theorem dJ0_charAt_5068e_12 : decode cJ0_charAt_5068e 12 = .ok (.invokestatic 495, 3) := by decide +kernel
theorem dJ0_charAt_5068e_15 : decode cJ0_charAt_5068e 15 = .ok (.ireturn, 1) := by decide +kernel
theorem dJ0_charAt_5068e_16 : decode cJ0_charAt_5068e 16 = .ok (.aload_n 0, 1) := by decide +kernel
theorem dJ0_charAt_5068e_17 : decode cJ0_charAt_5068e 17 = .ok (.getfield 9, 3) := by decide +kernel
theorem dJ0_charAt_5068e_20 : decode cJ0_charAt_5068e 20 = .ok (.iload_n 1, 1) := by decide +kernel
theorem dJ0_charAt_5068e_21 : decode cJ0_charAt_5068e 21 = .ok (.invokestatic 498, 3) := by decide +kernel
theorem dJ0_charAt_5068e_24 : decode cJ0_charAt_5068e 24 = .ok (.ireturn, 1) := by decide +kernel
theorem dJ0_coder_7d493_0 : decode cJ0_coder_7d493 0 = .ok (.getstatic 38, 3) := by decide +kernel
theorem dJ0_coder_7d493_3 : decode cJ0_coder_7d493 3 = .ok (.ifCond .eq 10, 3) := by decide +kernel
theorem dJ0_coder_7d493_6 : decode cJ0_coder_7d493 6 = .ok (.aload_n 0, 1) := by decide +kernel
theorem dJ0_coder_7d493_7 : decode cJ0_coder_7d493 7 = .ok (.getfield 15, 3) := by decide +kernel
theorem dJ0_coder_7d493_10 : decode cJ0_coder_7d493 10 = .ok (.goto 4, 3) := by decide +kernel
theorem dJ0_coder_7d493_13 : decode cJ0_coder_7d493 13 = .ok (.iconst 1, 1) := by decide +kernel
theorem dJ0_coder_7d493_14 : decode cJ0_coder_7d493 14 = .ok (.ireturn, 1) := by decide +kernel
theorem dJ0_isLatin1_aae02_0 : decode cJ0_isLatin1_aae02 0 = .ok (.getstatic 38, 3) := by decide +kernel
theorem dJ0_isLatin1_aae02_3 : decode cJ0_isLatin1_aae02 3 = .ok (.ifCond .eq 14, 3) := by decide +kernel
theorem dJ0_isLatin1_aae02_6 : decode cJ0_isLatin1_aae02 6 = .ok (.aload_n 0, 1) := by decide +kernel
theorem dJ0_isLatin1_aae02_7 : decode cJ0_isLatin1_aae02 7 = .ok (.getfield 15, 3) := by decide +kernel
theorem dJ0_isLatin1_aae02_10 : decode cJ0_isLatin1_aae02 10 = .ok (.ifCond .ne 7, 3) := by decide +kernel
theorem dJ0_isLatin1_aae02_13 : decode cJ0_isLatin1_aae02 13 = .ok (.iconst 1, 1) := by decide +kernel
theorem dJ0_isLatin1_aae02_14 : decode cJ0_isLatin1_aae02 14 = .ok (.goto 4, 3) := by decide +kernel
theorem dJ0_isLatin1_aae02_17 : decode cJ0_isLatin1_aae02 17 = .ok (.iconst 0, 1) := by decide +kernel
theorem dJ0_isLatin1_aae02_18 : decode cJ0_isLatin1_aae02 18 = .ok (.ireturn, 1) := by decide +kernel
theorem dJ0_checkIndex_df160_0 : decode cJ0_checkIndex_df160 0 = .ok (.iload_n 0, 1) := by decide +kernel
theorem dJ0_checkIndex_df160_1 : decode cJ0_checkIndex_df160 1 = .ok (.iload_n 1, 1) := by decide +kernel
theorem dJ0_checkIndex_df160_2 : decode cJ0_checkIndex_df160 2 = .ok (.getstatic 1053, 3) := by decide +kernel
theorem dJ0_checkIndex_df160_5 : decode cJ0_checkIndex_df160 5 = .ok (.invokestatic 1059, 3) := by decide +kernel
theorem dJ0_checkIndex_df160_8 : decode cJ0_checkIndex_df160 8 = .ok (.pop, 1) := by decide +kernel
theorem dJ0_checkIndex_df160_9 : decode cJ0_checkIndex_df160 9 = .ok (.return_, 1) := by decide +kernel
theorem dJ1_charAt_3b067_0 : decode cJ1_charAt_3b067 0 = .ok (.iload_n 1, 1) := by decide +kernel
theorem dJ1_charAt_3b067_1 : decode cJ1_charAt_3b067 1 = .ok (.aload_n 0, 1) := by decide +kernel
theorem dJ1_charAt_3b067_2 : decode cJ1_charAt_3b067 2 = .ok (.arraylength, 1) := by decide +kernel
theorem dJ1_charAt_3b067_3 : decode cJ1_charAt_3b067 3 = .ok (.invokestatic 9, 3) := by decide +kernel
theorem dJ1_charAt_3b067_6 : decode cJ1_charAt_3b067 6 = .ok (.aload_n 0, 1) := by decide +kernel
theorem dJ1_charAt_3b067_7 : decode cJ1_charAt_3b067 7 = .ok (.iload_n 1, 1) := by decide +kernel
theorem dJ1_charAt_3b067_8 : decode cJ1_charAt_3b067 8 = .ok (.baload, 1) := by decide +kernel
theorem dJ1_charAt_3b067_9 : decode cJ1_charAt_3b067 9 = .ok (.sipush 255, 3) := by decide +kernel
theorem dJ1_charAt_3b067_12 : decode cJ1_charAt_3b067 12 = .ok (.iand, 1) := by decide +kernel
theorem dJ1_charAt_3b067_13 : decode cJ1_charAt_3b067 13 = .ok (.i2c, 1) := by decide +kernel
theorem dJ1_charAt_3b067_14 : decode cJ1_charAt_3b067 14 = .ok (.ireturn, 1) := by decide +kernel
theorem dJ2_getChar_3b067_0 : decode cJ2_getChar_3b067 0 = .ok (.getstatic 44, 3) := by decide +kernel
theorem dJ2_getChar_3b067_3 : decode cJ2_getChar_3b067 3 = .ok (.ifCond .ne 25, 3) := by decide +kernel
theorem dJ2_getChar_3b067_6 : decode cJ2_getChar_3b067 6 = .ok (.iload_n 1, 1) := by decide +kernel
theorem dJ2_getChar_3b067_7 : decode cJ2_getChar_3b067 7 = .ok (.ifCond .lt 11, 3) := by decide +kernel
theorem dJ2_getChar_3b067_10 : decode cJ2_getChar_3b067 10 = .ok (.iload_n 1, 1) := by decide +kernel
theorem dJ2_getChar_3b067_11 : decode cJ2_getChar_3b067 11 = .ok (.aload_n 0, 1) := by decide +kernel
theorem dJ2_getChar_3b067_12 : decode cJ2_getChar_3b067 12 = .ok (.invokestatic 48, 3) := by decide +kernel
theorem dJ2_getChar_3b067_15 : decode cJ2_getChar_3b067 15 = .ok (.if_icmp .lt 13, 3) := by decide +kernel
theorem dJ2_getChar_3b067_18 : decode cJ2_getChar_3b067 18 = .ok (.new 52, 3) := by decide +kernel
theorem dJ2_getChar_3b067_21 : decode cJ2_getChar_3b067 21 = .ok (.dup, 1) := by decide +kernel
theorem dJ2_getChar_3b067_22 : decode cJ2_getChar_3b067 22 = .ok (.ldc 54, 2) := by decide +kernel
theorem dJ2_getChar_3b067_24 : decode cJ2_getChar_3b067 24 = .ok (.invokespecial 56, 3) := by decide +kernel
theorem dJ2_getChar_3b067_27 : decode cJ2_getChar_3b067 27 = .ok (.athrow, 1) := by decide +kernel
theorem dJ2_getChar_3b067_28 : decode cJ2_getChar_3b067 28 = .ok (.iload_n 1, 1) := by decide +kernel
theorem dJ2_getChar_3b067_29 : decode cJ2_getChar_3b067 29 = .ok (.iconst 1, 1) := by decide +kernel
theorem dJ2_getChar_3b067_30 : decode cJ2_getChar_3b067 30 = .ok (.ishl, 1) := by decide +kernel
theorem dJ2_getChar_3b067_31 : decode cJ2_getChar_3b067 31 = .ok (.istore_n 1, 1) := by decide +kernel
theorem dJ2_getChar_3b067_32 : decode cJ2_getChar_3b067 32 = .ok (.aload_n 0, 1) := by decide +kernel
theorem dJ2_getChar_3b067_33 : decode cJ2_getChar_3b067 33 = .ok (.iload_n 1, 1) := by decide +kernel
theorem dJ2_getChar_3b067_34 : decode cJ2_getChar_3b067 34 = .ok (.iinc 1 1, 3) := by decide +kernel
theorem dJ2_getChar_3b067_37 : decode cJ2_getChar_3b067 37 = .ok (.baload, 1) := by decide +kernel
theorem dJ2_getChar_3b067_38 : decode cJ2_getChar_3b067 38 = .ok (.sipush 255, 3) := by decide +kernel
theorem dJ2_getChar_3b067_41 : decode cJ2_getChar_3b067 41 = .ok (.iand, 1) := by decide +kernel
theorem dJ2_getChar_3b067_42 : decode cJ2_getChar_3b067 42 = .ok (.getstatic 59, 3) := by decide +kernel
theorem dJ2_getChar_3b067_45 : decode cJ2_getChar_3b067 45 = .ok (.ishl, 1) := by decide +kernel
theorem dJ2_getChar_3b067_46 : decode cJ2_getChar_3b067 46 = .ok (.aload_n 0, 1) := by decide +kernel
theorem dJ2_getChar_3b067_47 : decode cJ2_getChar_3b067 47 = .ok (.iload_n 1, 1) := by decide +kernel
theorem dJ2_getChar_3b067_48 : decode cJ2_getChar_3b067 48 = .ok (.baload, 1) := by decide +kernel
theorem dJ2_getChar_3b067_49 : decode cJ2_getChar_3b067 49 = .ok (.sipush 255, 3) := by decide +kernel
theorem dJ2_getChar_3b067_52 : decode cJ2_getChar_3b067 52 = .ok (.iand, 1) := by decide +kernel
theorem dJ2_getChar_3b067_53 : decode cJ2_getChar_3b067 53 = .ok (.getstatic 63, 3) := by decide +kernel
theorem dJ2_getChar_3b067_56 : decode cJ2_getChar_3b067 56 = .ok (.ishl, 1) := by decide +kernel
theorem dJ2_getChar_3b067_57 : decode cJ2_getChar_3b067 57 = .ok (.ior, 1) := by decide +kernel
theorem dJ2_getChar_3b067_58 : decode cJ2_getChar_3b067 58 = .ok (.i2c, 1) := by decide +kernel
theorem dJ2_getChar_3b067_59 : decode cJ2_getChar_3b067 59 = .ok (.ireturn, 1) := by decide +kernel
theorem dJ2_length_9d52b_0 : decode cJ2_length_9d52b 0 = .ok (.aload_n 0, 1) := by decide +kernel
theorem dJ2_length_9d52b_1 : decode cJ2_length_9d52b 1 = .ok (.arraylength, 1) := by decide +kernel
theorem dJ2_length_9d52b_2 : decode cJ2_length_9d52b 2 = .ok (.iconst 1, 1) := by decide +kernel
theorem dJ2_length_9d52b_3 : decode cJ2_length_9d52b 3 = .ok (.ishr, 1) := by decide +kernel
theorem dJ2_length_9d52b_4 : decode cJ2_length_9d52b 4 = .ok (.ireturn, 1) := by decide +kernel
theorem dJ2_charAt_3b067_0 : decode cJ2_charAt_3b067 0 = .ok (.iload_n 1, 1) := by decide +kernel
theorem dJ2_charAt_3b067_1 : decode cJ2_charAt_3b067 1 = .ok (.aload_n 0, 1) := by decide +kernel
theorem dJ2_charAt_3b067_2 : decode cJ2_charAt_3b067 2 = .ok (.invokestatic 67, 3) := by decide +kernel
theorem dJ2_charAt_3b067_5 : decode cJ2_charAt_3b067 5 = .ok (.aload_n 0, 1) := by decide +kernel
theorem dJ2_charAt_3b067_6 : decode cJ2_charAt_3b067 6 = .ok (.iload_n 1, 1) := by decide +kernel
theorem dJ2_charAt_3b067_7 : decode cJ2_charAt_3b067 7 = .ok (.invokestatic 71, 3) := by decide +kernel
theorem dJ2_charAt_3b067_10 : decode cJ2_charAt_3b067 10 = .ok (.ireturn, 1) := by decide +kernel
theorem dJ2_checkIndex_2214a_0 : decode cJ2_checkIndex_2214a 0 = .ok (.iload_n 0, 1) := by decide +kernel
theorem dJ2_checkIndex_2214a_1 : decode cJ2_checkIndex_2214a 1 = .ok (.aload_n 1, 1) := by decide +kernel
theorem dJ2_checkIndex_2214a_2 : decode cJ2_checkIndex_2214a 2 = .ok (.invokestatic 48, 3) := by decide +kernel
theorem dJ2_checkIndex_2214a_5 : decode cJ2_checkIndex_2214a 5 = .ok (.invokestatic 414, 3) := by decide +kernel
theorem dJ2_checkIndex_2214a_8 : decode cJ2_checkIndex_2214a 8 = .ok (.return_, 1) := by decide +kernel
theorem dJ7_fill_53178_0 : decode cJ7_fill_53178 0 = .ok (.iconst 0, 1) := by decide +kernel
theorem dJ7_fill_53178_1 : decode cJ7_fill_53178 1 = .ok (.istore_n 2, 1) := by decide +kernel
theorem dJ7_fill_53178_2 : decode cJ7_fill_53178 2 = .ok (.aload_n 0, 1) := by decide +kernel
theorem dJ7_fill_53178_3 : decode cJ7_fill_53178 3 = .ok (.arraylength, 1) := by decide +kernel
theorem dJ7_fill_53178_4 : decode cJ7_fill_53178 4 = .ok (.istore_n 3, 1) := by decide +kernel
theorem dJ7_fill_53178_5 : decode cJ7_fill_53178 5 = .ok (.iload_n 2, 1) := by decide +kernel
theorem dJ7_fill_53178_6 : decode cJ7_fill_53178 6 = .ok (.iload_n 3, 1) := by decide +kernel
theorem dJ7_fill_53178_7 : decode cJ7_fill_53178 7 = .ok (.if_icmp .ge 13, 3) := by decide +kernel
theorem dJ7_fill_53178_10 : decode cJ7_fill_53178 10 = .ok (.aload_n 0, 1) := by decide +kernel
theorem dJ7_fill_53178_11 : decode cJ7_fill_53178 11 = .ok (.iload_n 2, 1) := by decide +kernel
theorem dJ7_fill_53178_12 : decode cJ7_fill_53178 12 = .ok (.iload_n 1, 1) := by decide +kernel
theorem dJ7_fill_53178_13 : decode cJ7_fill_53178 13 = .ok (.iastore, 1) := by decide +kernel
theorem dJ7_fill_53178_14 : decode cJ7_fill_53178 14 = .ok (.iinc 2 1, 3) := by decide +kernel
theorem dJ7_fill_53178_17 : decode cJ7_fill_53178 17 = .ok (.goto (-12), 3) := by decide +kernel
theorem dJ7_fill_53178_20 : decode cJ7_fill_53178 20 = .ok (.return_, 1) := by decide +kernel
theorem dJ3_checkIndex_8e157_0 : decode cJ3_checkIndex_8e157 0 = .ok (.iload_n 0, 1) := by decide +kernel
theorem dJ3_checkIndex_8e157_1 : decode cJ3_checkIndex_8e157 1 = .ok (.ifCond .lt 8, 3) := by decide +kernel
theorem dJ3_checkIndex_8e157_4 : decode cJ3_checkIndex_8e157 4 = .ok (.iload_n 0, 1) := by decide +kernel
theorem dJ3_checkIndex_8e157_5 : decode cJ3_checkIndex_8e157 5 = .ok (.iload_n 1, 1) := by decide +kernel
theorem dJ3_checkIndex_8e157_6 : decode cJ3_checkIndex_8e157 6 = .ok (.if_icmp .lt 10, 3) := by decide +kernel
theorem dJ3_checkIndex_8e157_9 : decode cJ3_checkIndex_8e157 9 = .ok (.aload_n 2, 1) := by decide +kernel
theorem dJ3_checkIndex_8e157_10 : decode cJ3_checkIndex_8e157 10 = .ok (.iload_n 0, 1) := by decide +kernel
theorem dJ3_checkIndex_8e157_11 : decode cJ3_checkIndex_8e157 11 = .ok (.iload_n 1, 1) := by decide +kernel
theorem dJ3_checkIndex_8e157_12 : decode cJ3_checkIndex_8e157 12 = .ok (.invokestatic 95, 3) := by decide +kernel
theorem dJ3_checkIndex_8e157_15 : decode cJ3_checkIndex_8e157 15 = .ok (.athrow, 1) := by decide +kernel
theorem dJ3_checkIndex_8e157_16 : decode cJ3_checkIndex_8e157 16 = .ok (.iload_n 0, 1) := by decide +kernel
theorem dJ3_checkIndex_8e157_17 : decode cJ3_checkIndex_8e157 17 = .ok (.ireturn, 1) := by decide +kernel
theorem dL_law_0 : decode cL_law 0 = .ok (.new 7, 3) := by decide +kernel
theorem dL_law_3 : decode cL_law 3 = .ok (.dup, 1) := by decide +kernel
theorem dL_law_4 : decode cL_law 4 = .ok (.invokespecial 9, 3) := by decide +kernel
theorem dL_law_7 : decode cL_law 7 = .ok (.astore_n 1, 1) := by decide +kernel
theorem dL_law_8 : decode cL_law 8 = .ok (.new 10, 3) := by decide +kernel
theorem dL_law_11 : decode cL_law 11 = .ok (.dup, 1) := by decide +kernel
theorem dL_law_12 : decode cL_law 12 = .ok (.invokespecial 12, 3) := by decide +kernel
theorem dL_law_15 : decode cL_law 15 = .ok (.astore_n 2, 1) := by decide +kernel
theorem dL_law_16 : decode cL_law 16 = .ok (.iconst 0, 1) := by decide +kernel
theorem dL_law_17 : decode cL_law 17 = .ok (.istore_n 3, 1) := by decide +kernel
theorem dL_law_18 : decode cL_law 18 = .ok (.iload_n 3, 1) := by decide +kernel
theorem dL_law_19 : decode cL_law 19 = .ok (.aload_n 0, 1) := by decide +kernel
theorem dL_law_20 : decode cL_law 20 = .ok (.arraylength, 1) := by decide +kernel
theorem dL_law_21 : decode cL_law 21 = .ok (.bipush 6, 2) := by decide +kernel
theorem dL_law_23 : decode cL_law 23 = .ok (.isub, 1) := by decide +kernel
theorem dL_law_24 : decode cL_law 24 = .ok (.if_icmp .gt 1167, 3) := by decide +kernel
theorem dL_law_27 : decode cL_law 27 = .ok (.aload_n 0, 1) := by decide +kernel
theorem dL_law_28 : decode cL_law 28 = .ok (.iload_n 3, 1) := by decide +kernel
theorem dL_law_29 : decode cL_law 29 = .ok (.iaload, 1) := by decide +kernel
theorem dL_law_30 : decode cL_law 30 = .ok (.bipush 31, 2) := by decide +kernel
theorem dL_law_32 : decode cL_law 32 = .ok (.iand, 1) := by decide +kernel
theorem dL_law_33 : decode cL_law 33 = .ok (.tableswitch 1152 0 30 #[139, 202, 225, 248, 261, 274, 307, 340, 363, 396, 419, 442, 475, 508, 541, 564, 597, 610, 653, 666, 679, 712, 745, 808, 861, 924, 977, 1040, 1083, 1106, 1129], 139) := by decide +kernel
theorem dL_law_172 : decode cL_law 172 = .ok (.aload_n 1, 1) := by decide +kernel
theorem dL_law_173 : decode cL_law 173 = .ok (.aload_n 0, 1) := by decide +kernel
theorem dL_law_174 : decode cL_law 174 = .ok (.iload_n 3, 1) := by decide +kernel
theorem dL_law_175 : decode cL_law 175 = .ok (.iconst 1, 1) := by decide +kernel
theorem dL_law_176 : decode cL_law 176 = .ok (.iadd, 1) := by decide +kernel
theorem dL_law_177 : decode cL_law 177 = .ok (.iaload, 1) := by decide +kernel
theorem dL_law_178 : decode cL_law 178 = .ok (.aload_n 0, 1) := by decide +kernel
theorem dL_law_179 : decode cL_law 179 = .ok (.iload_n 3, 1) := by decide +kernel
theorem dL_law_180 : decode cL_law 180 = .ok (.iconst 2, 1) := by decide +kernel
theorem dL_law_181 : decode cL_law 181 = .ok (.iadd, 1) := by decide +kernel
theorem dL_law_182 : decode cL_law 182 = .ok (.iaload, 1) := by decide +kernel
theorem dL_law_183 : decode cL_law 183 = .ok (.aload_n 0, 1) := by decide +kernel
theorem dL_law_184 : decode cL_law 184 = .ok (.iload_n 3, 1) := by decide +kernel
theorem dL_law_185 : decode cL_law 185 = .ok (.iconst 3, 1) := by decide +kernel
theorem dL_law_186 : decode cL_law 186 = .ok (.iadd, 1) := by decide +kernel
theorem dL_law_187 : decode cL_law 187 = .ok (.iaload, 1) := by decide +kernel
theorem dL_law_188 : decode cL_law 188 = .ok (.aload_n 0, 1) := by decide +kernel
theorem dL_law_189 : decode cL_law 189 = .ok (.iload_n 3, 1) := by decide +kernel
theorem dL_law_190 : decode cL_law 190 = .ok (.iconst 4, 1) := by decide +kernel
theorem dL_law_191 : decode cL_law 191 = .ok (.iadd, 1) := by decide +kernel
theorem dL_law_192 : decode cL_law 192 = .ok (.iaload, 1) := by decide +kernel
theorem dL_law_193 : decode cL_law 193 = .ok (.aload_n 0, 1) := by decide +kernel
theorem dL_law_194 : decode cL_law 194 = .ok (.iload_n 3, 1) := by decide +kernel
theorem dL_law_195 : decode cL_law 195 = .ok (.iconst 5, 1) := by decide +kernel
theorem dL_law_196 : decode cL_law 196 = .ok (.iadd, 1) := by decide +kernel
theorem dL_law_197 : decode cL_law 197 = .ok (.iaload, 1) := by decide +kernel
theorem dL_law_198 : decode cL_law 198 = .ok (.invokevirtual 13, 3) := by decide +kernel
theorem dL_law_201 : decode cL_law 201 = .ok (.aload_n 2, 1) := by decide +kernel
theorem dL_law_202 : decode cL_law 202 = .ok (.aload_n 0, 1) := by decide +kernel
theorem dL_law_203 : decode cL_law 203 = .ok (.iload_n 3, 1) := by decide +kernel
theorem dL_law_204 : decode cL_law 204 = .ok (.iconst 1, 1) := by decide +kernel
theorem dL_law_205 : decode cL_law 205 = .ok (.iadd, 1) := by decide +kernel
theorem dL_law_206 : decode cL_law 206 = .ok (.iaload, 1) := by decide +kernel
theorem dL_law_207 : decode cL_law 207 = .ok (.aload_n 0, 1) := by decide +kernel
theorem dL_law_208 : decode cL_law 208 = .ok (.iload_n 3, 1) := by decide +kernel
theorem dL_law_209 : decode cL_law 209 = .ok (.iconst 2, 1) := by decide +kernel
theorem dL_law_210 : decode cL_law 210 = .ok (.iadd, 1) := by decide +kernel
theorem dL_law_211 : decode cL_law 211 = .ok (.iaload, 1) := by decide +kernel
theorem dL_law_212 : decode cL_law 212 = .ok (.aload_n 0, 1) := by decide +kernel
theorem dL_law_213 : decode cL_law 213 = .ok (.iload_n 3, 1) := by decide +kernel
theorem dL_law_214 : decode cL_law 214 = .ok (.iconst 3, 1) := by decide +kernel
theorem dL_law_215 : decode cL_law 215 = .ok (.iadd, 1) := by decide +kernel
theorem dL_law_216 : decode cL_law 216 = .ok (.iaload, 1) := by decide +kernel
theorem dL_law_217 : decode cL_law 217 = .ok (.aload_n 0, 1) := by decide +kernel
theorem dL_law_218 : decode cL_law 218 = .ok (.iload_n 3, 1) := by decide +kernel
theorem dL_law_219 : decode cL_law 219 = .ok (.iconst 4, 1) := by decide +kernel
theorem dL_law_220 : decode cL_law 220 = .ok (.iadd, 1) := by decide +kernel
theorem dL_law_221 : decode cL_law 221 = .ok (.iaload, 1) := by decide +kernel
theorem dL_law_222 : decode cL_law 222 = .ok (.aload_n 0, 1) := by decide +kernel
theorem dL_law_223 : decode cL_law 223 = .ok (.iload_n 3, 1) := by decide +kernel
theorem dL_law_224 : decode cL_law 224 = .ok (.iconst 5, 1) := by decide +kernel
theorem dL_law_225 : decode cL_law 225 = .ok (.iadd, 1) := by decide +kernel
theorem dL_law_226 : decode cL_law 226 = .ok (.iaload, 1) := by decide +kernel
theorem dL_law_227 : decode cL_law 227 = .ok (.invokevirtual 17, 3) := by decide +kernel
theorem dL_law_230 : decode cL_law 230 = .ok (.if_icmp .eq 955, 3) := by decide +kernel
theorem dL_law_233 : decode cL_law 233 = .ok (.iconst 0, 1) := by decide +kernel
theorem dL_law_234 : decode cL_law 234 = .ok (.ireturn, 1) := by decide +kernel
theorem dL_law_235 : decode cL_law 235 = .ok (.aload_n 1, 1) := by decide +kernel
theorem dL_law_236 : decode cL_law 236 = .ok (.aload_n 0, 1) := by decide +kernel
theorem dL_law_237 : decode cL_law 237 = .ok (.iload_n 3, 1) := by decide +kernel
theorem dL_law_238 : decode cL_law 238 = .ok (.iconst 1, 1) := by decide +kernel
theorem dL_law_239 : decode cL_law 239 = .ok (.iadd, 1) := by decide +kernel
theorem dL_law_240 : decode cL_law 240 = .ok (.iaload, 1) := by decide +kernel
theorem dL_law_241 : decode cL_law 241 = .ok (.invokevirtual 18, 3) := by decide +kernel
theorem dL_law_244 : decode cL_law 244 = .ok (.aload_n 2, 1) := by decide +kernel
theorem dL_law_245 : decode cL_law 245 = .ok (.aload_n 0, 1) := by decide +kernel
theorem dL_law_246 : decode cL_law 246 = .ok (.iload_n 3, 1) := by decide +kernel
theorem dL_law_247 : decode cL_law 247 = .ok (.iconst 1, 1) := by decide +kernel
theorem dL_law_248 : decode cL_law 248 = .ok (.iadd, 1) := by decide +kernel
theorem dL_law_249 : decode cL_law 249 = .ok (.iaload, 1) := by decide +kernel
theorem dL_law_250 : decode cL_law 250 = .ok (.invokevirtual 22, 3) := by decide +kernel
theorem dL_law_253 : decode cL_law 253 = .ok (.if_icmp .eq 932, 3) := by decide +kernel
theorem dL_law_256 : decode cL_law 256 = .ok (.iconst 0, 1) := by decide +kernel
theorem dL_law_257 : decode cL_law 257 = .ok (.ireturn, 1) := by decide +kernel
theorem dL_law_258 : decode cL_law 258 = .ok (.aload_n 1, 1) := by decide +kernel
theorem dL_law_259 : decode cL_law 259 = .ok (.aload_n 0, 1) := by decide +kernel
theorem dL_law_260 : decode cL_law 260 = .ok (.iload_n 3, 1) := by decide +kernel
theorem dL_law_261 : decode cL_law 261 = .ok (.iconst 1, 1) := by decide +kernel
theorem dL_law_262 : decode cL_law 262 = .ok (.iadd, 1) := by decide +kernel
theorem dL_law_263 : decode cL_law 263 = .ok (.iaload, 1) := by decide +kernel
theorem dL_law_264 : decode cL_law 264 = .ok (.invokevirtual 23, 3) := by decide +kernel
theorem dL_law_267 : decode cL_law 267 = .ok (.aload_n 2, 1) := by decide +kernel
theorem dL_law_268 : decode cL_law 268 = .ok (.aload_n 0, 1) := by decide +kernel
theorem dL_law_269 : decode cL_law 269 = .ok (.iload_n 3, 1) := by decide +kernel
theorem dL_law_270 : decode cL_law 270 = .ok (.iconst 1, 1) := by decide +kernel
theorem dL_law_271 : decode cL_law 271 = .ok (.iadd, 1) := by decide +kernel
theorem dL_law_272 : decode cL_law 272 = .ok (.iaload, 1) := by decide +kernel
theorem dL_law_273 : decode cL_law 273 = .ok (.invokevirtual 27, 3) := by decide +kernel
theorem dL_law_276 : decode cL_law 276 = .ok (.if_icmp .eq 909, 3) := by decide +kernel
theorem dL_law_279 : decode cL_law 279 = .ok (.iconst 0, 1) := by decide +kernel
theorem dL_law_280 : decode cL_law 280 = .ok (.ireturn, 1) := by decide +kernel
theorem dL_law_281 : decode cL_law 281 = .ok (.aload_n 1, 1) := by decide +kernel
theorem dL_law_282 : decode cL_law 282 = .ok (.invokevirtual 28, 3) := by decide +kernel
theorem dL_law_285 : decode cL_law 285 = .ok (.aload_n 2, 1) := by decide +kernel
theorem dL_law_286 : decode cL_law 286 = .ok (.invokevirtual 32, 3) := by decide +kernel
theorem dL_law_289 : decode cL_law 289 = .ok (.if_icmp .eq 896, 3) := by decide +kernel
theorem dL_law_292 : decode cL_law 292 = .ok (.iconst 0, 1) := by decide +kernel
theorem dL_law_293 : decode cL_law 293 = .ok (.ireturn, 1) := by decide +kernel
theorem dL_law_294 : decode cL_law 294 = .ok (.aload_n 1, 1) := by decide +kernel
theorem dL_law_295 : decode cL_law 295 = .ok (.invokevirtual 33, 3) := by decide +kernel
theorem dL_law_298 : decode cL_law 298 = .ok (.aload_n 2, 1) := by decide +kernel
theorem dL_law_299 : decode cL_law 299 = .ok (.invokevirtual 36, 3) := by decide +kernel
theorem dL_law_302 : decode cL_law 302 = .ok (.if_icmp .eq 883, 3) := by decide +kernel
theorem dL_law_305 : decode cL_law 305 = .ok (.iconst 0, 1) := by decide +kernel
theorem dL_law_306 : decode cL_law 306 = .ok (.ireturn, 1) := by decide +kernel
theorem dL_law_307 : decode cL_law 307 = .ok (.aload_n 1, 1) := by decide +kernel
theorem dL_law_308 : decode cL_law 308 = .ok (.aload_n 0, 1) := by decide +kernel
theorem dL_law_309 : decode cL_law 309 = .ok (.iload_n 3, 1) := by decide +kernel
theorem dL_law_310 : decode cL_law 310 = .ok (.iconst 1, 1) := by decide +kernel
theorem dL_law_311 : decode cL_law 311 = .ok (.iadd, 1) := by decide +kernel
theorem dL_law_312 : decode cL_law 312 = .ok (.iaload, 1) := by decide +kernel
theorem dL_law_313 : decode cL_law 313 = .ok (.aload_n 0, 1) := by decide +kernel
theorem dL_law_314 : decode cL_law 314 = .ok (.iload_n 3, 1) := by decide +kernel
theorem dL_law_315 : decode cL_law 315 = .ok (.iconst 2, 1) := by decide +kernel
theorem dL_law_316 : decode cL_law 316 = .ok (.iadd, 1) := by decide +kernel
theorem dL_law_317 : decode cL_law 317 = .ok (.iaload, 1) := by decide +kernel
theorem dL_law_318 : decode cL_law 318 = .ok (.invokevirtual 37, 3) := by decide +kernel
theorem dL_law_321 : decode cL_law 321 = .ok (.aload_n 2, 1) := by decide +kernel
theorem dL_law_322 : decode cL_law 322 = .ok (.aload_n 0, 1) := by decide +kernel
theorem dL_law_323 : decode cL_law 323 = .ok (.iload_n 3, 1) := by decide +kernel
theorem dL_law_324 : decode cL_law 324 = .ok (.iconst 1, 1) := by decide +kernel
theorem dL_law_325 : decode cL_law 325 = .ok (.iadd, 1) := by decide +kernel
theorem dL_law_326 : decode cL_law 326 = .ok (.iaload, 1) := by decide +kernel
theorem dL_law_327 : decode cL_law 327 = .ok (.aload_n 0, 1) := by decide +kernel
theorem dL_law_328 : decode cL_law 328 = .ok (.iload_n 3, 1) := by decide +kernel
theorem dL_law_329 : decode cL_law 329 = .ok (.iconst 2, 1) := by decide +kernel
theorem dL_law_330 : decode cL_law 330 = .ok (.iadd, 1) := by decide +kernel
theorem dL_law_331 : decode cL_law 331 = .ok (.iaload, 1) := by decide +kernel
theorem dL_law_332 : decode cL_law 332 = .ok (.invokevirtual 41, 3) := by decide +kernel
theorem dL_law_335 : decode cL_law 335 = .ok (.if_icmp .eq 850, 3) := by decide +kernel
theorem dL_law_338 : decode cL_law 338 = .ok (.iconst 0, 1) := by decide +kernel
theorem dL_law_339 : decode cL_law 339 = .ok (.ireturn, 1) := by decide +kernel
theorem dL_law_340 : decode cL_law 340 = .ok (.aload_n 1, 1) := by decide +kernel
theorem dL_law_341 : decode cL_law 341 = .ok (.aload_n 0, 1) := by decide +kernel
theorem dL_law_342 : decode cL_law 342 = .ok (.iload_n 3, 1) := by decide +kernel
theorem dL_law_343 : decode cL_law 343 = .ok (.iconst 1, 1) := by decide +kernel
theorem dL_law_344 : decode cL_law 344 = .ok (.iadd, 1) := by decide +kernel
theorem dL_law_345 : decode cL_law 345 = .ok (.iaload, 1) := by decide +kernel
theorem dL_law_346 : decode cL_law 346 = .ok (.aload_n 0, 1) := by decide +kernel
theorem dL_law_347 : decode cL_law 347 = .ok (.iload_n 3, 1) := by decide +kernel
theorem dL_law_348 : decode cL_law 348 = .ok (.iconst 2, 1) := by decide +kernel
theorem dL_law_349 : decode cL_law 349 = .ok (.iadd, 1) := by decide +kernel
theorem dL_law_350 : decode cL_law 350 = .ok (.iaload, 1) := by decide +kernel
theorem dL_law_351 : decode cL_law 351 = .ok (.invokevirtual 42, 3) := by decide +kernel
theorem dL_law_354 : decode cL_law 354 = .ok (.aload_n 2, 1) := by decide +kernel
theorem dL_law_355 : decode cL_law 355 = .ok (.aload_n 0, 1) := by decide +kernel
theorem dL_law_356 : decode cL_law 356 = .ok (.iload_n 3, 1) := by decide +kernel
theorem dL_law_357 : decode cL_law 357 = .ok (.iconst 1, 1) := by decide +kernel
theorem dL_law_358 : decode cL_law 358 = .ok (.iadd, 1) := by decide +kernel
theorem dL_law_359 : decode cL_law 359 = .ok (.iaload, 1) := by decide +kernel
theorem dL_law_360 : decode cL_law 360 = .ok (.aload_n 0, 1) := by decide +kernel
theorem dL_law_361 : decode cL_law 361 = .ok (.iload_n 3, 1) := by decide +kernel
theorem dL_law_362 : decode cL_law 362 = .ok (.iconst 2, 1) := by decide +kernel
theorem dL_law_363 : decode cL_law 363 = .ok (.iadd, 1) := by decide +kernel
theorem dL_law_364 : decode cL_law 364 = .ok (.iaload, 1) := by decide +kernel
theorem dL_law_365 : decode cL_law 365 = .ok (.invokevirtual 45, 3) := by decide +kernel
theorem dL_law_368 : decode cL_law 368 = .ok (.if_icmp .eq 817, 3) := by decide +kernel
theorem dL_law_371 : decode cL_law 371 = .ok (.iconst 0, 1) := by decide +kernel
theorem dL_law_372 : decode cL_law 372 = .ok (.ireturn, 1) := by decide +kernel
theorem dL_law_373 : decode cL_law 373 = .ok (.aload_n 1, 1) := by decide +kernel
theorem dL_law_374 : decode cL_law 374 = .ok (.aload_n 0, 1) := by decide +kernel
theorem dL_law_375 : decode cL_law 375 = .ok (.iload_n 3, 1) := by decide +kernel
theorem dL_law_376 : decode cL_law 376 = .ok (.iconst 1, 1) := by decide +kernel
theorem dL_law_377 : decode cL_law 377 = .ok (.iadd, 1) := by decide +kernel
theorem dL_law_378 : decode cL_law 378 = .ok (.iaload, 1) := by decide +kernel
theorem dL_law_379 : decode cL_law 379 = .ok (.invokevirtual 46, 3) := by decide +kernel
theorem dL_law_382 : decode cL_law 382 = .ok (.aload_n 2, 1) := by decide +kernel
theorem dL_law_383 : decode cL_law 383 = .ok (.aload_n 0, 1) := by decide +kernel
theorem dL_law_384 : decode cL_law 384 = .ok (.iload_n 3, 1) := by decide +kernel
theorem dL_law_385 : decode cL_law 385 = .ok (.iconst 1, 1) := by decide +kernel
theorem dL_law_386 : decode cL_law 386 = .ok (.iadd, 1) := by decide +kernel
theorem dL_law_387 : decode cL_law 387 = .ok (.iaload, 1) := by decide +kernel
theorem dL_law_388 : decode cL_law 388 = .ok (.invokevirtual 49, 3) := by decide +kernel
theorem dL_law_391 : decode cL_law 391 = .ok (.if_icmp .eq 794, 3) := by decide +kernel
theorem dL_law_394 : decode cL_law 394 = .ok (.iconst 0, 1) := by decide +kernel
theorem dL_law_395 : decode cL_law 395 = .ok (.ireturn, 1) := by decide +kernel
theorem dL_law_396 : decode cL_law 396 = .ok (.aload_n 1, 1) := by decide +kernel
theorem dL_law_397 : decode cL_law 397 = .ok (.aload_n 0, 1) := by decide +kernel
theorem dL_law_398 : decode cL_law 398 = .ok (.iload_n 3, 1) := by decide +kernel
theorem dL_law_399 : decode cL_law 399 = .ok (.iconst 1, 1) := by decide +kernel
theorem dL_law_400 : decode cL_law 400 = .ok (.iadd, 1) := by decide +kernel
theorem dL_law_401 : decode cL_law 401 = .ok (.iaload, 1) := by decide +kernel
theorem dL_law_402 : decode cL_law 402 = .ok (.aload_n 0, 1) := by decide +kernel
theorem dL_law_403 : decode cL_law 403 = .ok (.iload_n 3, 1) := by decide +kernel
theorem dL_law_404 : decode cL_law 404 = .ok (.iconst 2, 1) := by decide +kernel
theorem dL_law_405 : decode cL_law 405 = .ok (.iadd, 1) := by decide +kernel
theorem dL_law_406 : decode cL_law 406 = .ok (.iaload, 1) := by decide +kernel
theorem dL_law_407 : decode cL_law 407 = .ok (.invokevirtual 50, 3) := by decide +kernel
theorem dL_law_410 : decode cL_law 410 = .ok (.aload_n 2, 1) := by decide +kernel
theorem dL_law_411 : decode cL_law 411 = .ok (.aload_n 0, 1) := by decide +kernel
theorem dL_law_412 : decode cL_law 412 = .ok (.iload_n 3, 1) := by decide +kernel
theorem dL_law_413 : decode cL_law 413 = .ok (.iconst 1, 1) := by decide +kernel
theorem dL_law_414 : decode cL_law 414 = .ok (.iadd, 1) := by decide +kernel
theorem dL_law_415 : decode cL_law 415 = .ok (.iaload, 1) := by decide +kernel
theorem dL_law_416 : decode cL_law 416 = .ok (.aload_n 0, 1) := by decide +kernel
theorem dL_law_417 : decode cL_law 417 = .ok (.iload_n 3, 1) := by decide +kernel
theorem dL_law_418 : decode cL_law 418 = .ok (.iconst 2, 1) := by decide +kernel
theorem dL_law_419 : decode cL_law 419 = .ok (.iadd, 1) := by decide +kernel
theorem dL_law_420 : decode cL_law 420 = .ok (.iaload, 1) := by decide +kernel
theorem dL_law_421 : decode cL_law 421 = .ok (.invokevirtual 53, 3) := by decide +kernel
theorem dL_law_424 : decode cL_law 424 = .ok (.if_icmp .eq 761, 3) := by decide +kernel
theorem dL_law_427 : decode cL_law 427 = .ok (.iconst 0, 1) := by decide +kernel
theorem dL_law_428 : decode cL_law 428 = .ok (.ireturn, 1) := by decide +kernel
theorem dL_law_429 : decode cL_law 429 = .ok (.aload_n 1, 1) := by decide +kernel
theorem dL_law_430 : decode cL_law 430 = .ok (.aload_n 0, 1) := by decide +kernel
theorem dL_law_431 : decode cL_law 431 = .ok (.iload_n 3, 1) := by decide +kernel
theorem dL_law_432 : decode cL_law 432 = .ok (.iconst 1, 1) := by decide +kernel
theorem dL_law_433 : decode cL_law 433 = .ok (.iadd, 1) := by decide +kernel
theorem dL_law_434 : decode cL_law 434 = .ok (.iaload, 1) := by decide +kernel
theorem dL_law_435 : decode cL_law 435 = .ok (.invokevirtual 54, 3) := by decide +kernel
theorem dL_law_438 : decode cL_law 438 = .ok (.aload_n 2, 1) := by decide +kernel
theorem dL_law_439 : decode cL_law 439 = .ok (.aload_n 0, 1) := by decide +kernel
theorem dL_law_440 : decode cL_law 440 = .ok (.iload_n 3, 1) := by decide +kernel
theorem dL_law_441 : decode cL_law 441 = .ok (.iconst 1, 1) := by decide +kernel
theorem dL_law_442 : decode cL_law 442 = .ok (.iadd, 1) := by decide +kernel
theorem dL_law_443 : decode cL_law 443 = .ok (.iaload, 1) := by decide +kernel
theorem dL_law_444 : decode cL_law 444 = .ok (.invokevirtual 57, 3) := by decide +kernel
theorem dL_law_447 : decode cL_law 447 = .ok (.if_icmp .eq 738, 3) := by decide +kernel
theorem dL_law_450 : decode cL_law 450 = .ok (.iconst 0, 1) := by decide +kernel
theorem dL_law_451 : decode cL_law 451 = .ok (.ireturn, 1) := by decide +kernel
theorem dL_law_452 : decode cL_law 452 = .ok (.aload_n 1, 1) := by decide +kernel
theorem dL_law_453 : decode cL_law 453 = .ok (.aload_n 0, 1) := by decide +kernel
theorem dL_law_454 : decode cL_law 454 = .ok (.iload_n 3, 1) := by decide +kernel
theorem dL_law_455 : decode cL_law 455 = .ok (.iconst 1, 1) := by decide +kernel
theorem dL_law_456 : decode cL_law 456 = .ok (.iadd, 1) := by decide +kernel
theorem dL_law_457 : decode cL_law 457 = .ok (.iaload, 1) := by decide +kernel
theorem dL_law_458 : decode cL_law 458 = .ok (.invokevirtual 58, 3) := by decide +kernel
theorem dL_law_461 : decode cL_law 461 = .ok (.aload_n 2, 1) := by decide +kernel
theorem dL_law_462 : decode cL_law 462 = .ok (.aload_n 0, 1) := by decide +kernel
theorem dL_law_463 : decode cL_law 463 = .ok (.iload_n 3, 1) := by decide +kernel
theorem dL_law_464 : decode cL_law 464 = .ok (.iconst 1, 1) := by decide +kernel
theorem dL_law_465 : decode cL_law 465 = .ok (.iadd, 1) := by decide +kernel
theorem dL_law_466 : decode cL_law 466 = .ok (.iaload, 1) := by decide +kernel
theorem dL_law_467 : decode cL_law 467 = .ok (.invokevirtual 61, 3) := by decide +kernel
theorem dL_law_470 : decode cL_law 470 = .ok (.if_icmp .eq 715, 3) := by decide +kernel
theorem dL_law_473 : decode cL_law 473 = .ok (.iconst 0, 1) := by decide +kernel
theorem dL_law_474 : decode cL_law 474 = .ok (.ireturn, 1) := by decide +kernel
theorem dL_law_475 : decode cL_law 475 = .ok (.aload_n 1, 1) := by decide +kernel
theorem dL_law_476 : decode cL_law 476 = .ok (.aload_n 0, 1) := by decide +kernel
theorem dL_law_477 : decode cL_law 477 = .ok (.iload_n 3, 1) := by decide +kernel
theorem dL_law_478 : decode cL_law 478 = .ok (.iconst 1, 1) := by decide +kernel
theorem dL_law_479 : decode cL_law 479 = .ok (.iadd, 1) := by decide +kernel
theorem dL_law_480 : decode cL_law 480 = .ok (.iaload, 1) := by decide +kernel
theorem dL_law_481 : decode cL_law 481 = .ok (.aload_n 0, 1) := by decide +kernel
theorem dL_law_482 : decode cL_law 482 = .ok (.iload_n 3, 1) := by decide +kernel
theorem dL_law_483 : decode cL_law 483 = .ok (.iconst 2, 1) := by decide +kernel
theorem dL_law_484 : decode cL_law 484 = .ok (.iadd, 1) := by decide +kernel
theorem dL_law_485 : decode cL_law 485 = .ok (.iaload, 1) := by decide +kernel
theorem dL_law_486 : decode cL_law 486 = .ok (.invokevirtual 62, 3) := by decide +kernel
theorem dL_law_489 : decode cL_law 489 = .ok (.aload_n 2, 1) := by decide +kernel
theorem dL_law_490 : decode cL_law 490 = .ok (.aload_n 0, 1) := by decide +kernel
theorem dL_law_491 : decode cL_law 491 = .ok (.iload_n 3, 1) := by decide +kernel
theorem dL_law_492 : decode cL_law 492 = .ok (.iconst 1, 1) := by decide +kernel
theorem dL_law_493 : decode cL_law 493 = .ok (.iadd, 1) := by decide +kernel
theorem dL_law_494 : decode cL_law 494 = .ok (.iaload, 1) := by decide +kernel
theorem dL_law_495 : decode cL_law 495 = .ok (.aload_n 0, 1) := by decide +kernel
theorem dL_law_496 : decode cL_law 496 = .ok (.iload_n 3, 1) := by decide +kernel
theorem dL_law_497 : decode cL_law 497 = .ok (.iconst 2, 1) := by decide +kernel
theorem dL_law_498 : decode cL_law 498 = .ok (.iadd, 1) := by decide +kernel
theorem dL_law_499 : decode cL_law 499 = .ok (.iaload, 1) := by decide +kernel
theorem dL_law_500 : decode cL_law 500 = .ok (.invokevirtual 65, 3) := by decide +kernel
theorem dL_law_503 : decode cL_law 503 = .ok (.if_icmp .eq 682, 3) := by decide +kernel
theorem dL_law_506 : decode cL_law 506 = .ok (.iconst 0, 1) := by decide +kernel
theorem dL_law_507 : decode cL_law 507 = .ok (.ireturn, 1) := by decide +kernel
theorem dL_law_508 : decode cL_law 508 = .ok (.aload_n 1, 1) := by decide +kernel
theorem dL_law_509 : decode cL_law 509 = .ok (.aload_n 0, 1) := by decide +kernel
theorem dL_law_510 : decode cL_law 510 = .ok (.iload_n 3, 1) := by decide +kernel
theorem dL_law_511 : decode cL_law 511 = .ok (.iconst 1, 1) := by decide +kernel
theorem dL_law_512 : decode cL_law 512 = .ok (.iadd, 1) := by decide +kernel
theorem dL_law_513 : decode cL_law 513 = .ok (.iaload, 1) := by decide +kernel
theorem dL_law_514 : decode cL_law 514 = .ok (.aload_n 0, 1) := by decide +kernel
theorem dL_law_515 : decode cL_law 515 = .ok (.iload_n 3, 1) := by decide +kernel
theorem dL_law_516 : decode cL_law 516 = .ok (.iconst 2, 1) := by decide +kernel
theorem dL_law_517 : decode cL_law 517 = .ok (.iadd, 1) := by decide +kernel
theorem dL_law_518 : decode cL_law 518 = .ok (.iaload, 1) := by decide +kernel
theorem dL_law_519 : decode cL_law 519 = .ok (.invokevirtual 66, 3) := by decide +kernel
theorem dL_law_522 : decode cL_law 522 = .ok (.aload_n 2, 1) := by decide +kernel
theorem dL_law_523 : decode cL_law 523 = .ok (.aload_n 0, 1) := by decide +kernel
theorem dL_law_524 : decode cL_law 524 = .ok (.iload_n 3, 1) := by decide +kernel
theorem dL_law_525 : decode cL_law 525 = .ok (.iconst 1, 1) := by decide +kernel
theorem dL_law_526 : decode cL_law 526 = .ok (.iadd, 1) := by decide +kernel
theorem dL_law_527 : decode cL_law 527 = .ok (.iaload, 1) := by decide +kernel
theorem dL_law_528 : decode cL_law 528 = .ok (.aload_n 0, 1) := by decide +kernel
theorem dL_law_529 : decode cL_law 529 = .ok (.iload_n 3, 1) := by decide +kernel
theorem dL_law_530 : decode cL_law 530 = .ok (.iconst 2, 1) := by decide +kernel
theorem dL_law_531 : decode cL_law 531 = .ok (.iadd, 1) := by decide +kernel
theorem dL_law_532 : decode cL_law 532 = .ok (.iaload, 1) := by decide +kernel
theorem dL_law_533 : decode cL_law 533 = .ok (.invokevirtual 69, 3) := by decide +kernel
theorem dL_law_536 : decode cL_law 536 = .ok (.if_icmp .eq 649, 3) := by decide +kernel
theorem dL_law_539 : decode cL_law 539 = .ok (.iconst 0, 1) := by decide +kernel
theorem dL_law_540 : decode cL_law 540 = .ok (.ireturn, 1) := by decide +kernel
theorem dL_law_541 : decode cL_law 541 = .ok (.aload_n 1, 1) := by decide +kernel
theorem dL_law_542 : decode cL_law 542 = .ok (.aload_n 0, 1) := by decide +kernel
theorem dL_law_543 : decode cL_law 543 = .ok (.iload_n 3, 1) := by decide +kernel
theorem dL_law_544 : decode cL_law 544 = .ok (.iconst 1, 1) := by decide +kernel
theorem dL_law_545 : decode cL_law 545 = .ok (.iadd, 1) := by decide +kernel
theorem dL_law_546 : decode cL_law 546 = .ok (.iaload, 1) := by decide +kernel
theorem dL_law_547 : decode cL_law 547 = .ok (.aload_n 0, 1) := by decide +kernel
theorem dL_law_548 : decode cL_law 548 = .ok (.iload_n 3, 1) := by decide +kernel
theorem dL_law_549 : decode cL_law 549 = .ok (.iconst 2, 1) := by decide +kernel
theorem dL_law_550 : decode cL_law 550 = .ok (.iadd, 1) := by decide +kernel
theorem dL_law_551 : decode cL_law 551 = .ok (.iaload, 1) := by decide +kernel
theorem dL_law_552 : decode cL_law 552 = .ok (.invokevirtual 70, 3) := by decide +kernel
theorem dL_law_555 : decode cL_law 555 = .ok (.aload_n 2, 1) := by decide +kernel
theorem dL_law_556 : decode cL_law 556 = .ok (.aload_n 0, 1) := by decide +kernel
theorem dL_law_557 : decode cL_law 557 = .ok (.iload_n 3, 1) := by decide +kernel
theorem dL_law_558 : decode cL_law 558 = .ok (.iconst 1, 1) := by decide +kernel
theorem dL_law_559 : decode cL_law 559 = .ok (.iadd, 1) := by decide +kernel
theorem dL_law_560 : decode cL_law 560 = .ok (.iaload, 1) := by decide +kernel
theorem dL_law_561 : decode cL_law 561 = .ok (.aload_n 0, 1) := by decide +kernel
theorem dL_law_562 : decode cL_law 562 = .ok (.iload_n 3, 1) := by decide +kernel
theorem dL_law_563 : decode cL_law 563 = .ok (.iconst 2, 1) := by decide +kernel
theorem dL_law_564 : decode cL_law 564 = .ok (.iadd, 1) := by decide +kernel
theorem dL_law_565 : decode cL_law 565 = .ok (.iaload, 1) := by decide +kernel
theorem dL_law_566 : decode cL_law 566 = .ok (.invokevirtual 73, 3) := by decide +kernel
theorem dL_law_569 : decode cL_law 569 = .ok (.if_icmp .eq 616, 3) := by decide +kernel
theorem dL_law_572 : decode cL_law 572 = .ok (.iconst 0, 1) := by decide +kernel
theorem dL_law_573 : decode cL_law 573 = .ok (.ireturn, 1) := by decide +kernel
theorem dL_law_574 : decode cL_law 574 = .ok (.aload_n 1, 1) := by decide +kernel
theorem dL_law_575 : decode cL_law 575 = .ok (.aload_n 0, 1) := by decide +kernel
theorem dL_law_576 : decode cL_law 576 = .ok (.iload_n 3, 1) := by decide +kernel
theorem dL_law_577 : decode cL_law 577 = .ok (.iconst 1, 1) := by decide +kernel
theorem dL_law_578 : decode cL_law 578 = .ok (.iadd, 1) := by decide +kernel
theorem dL_law_579 : decode cL_law 579 = .ok (.iaload, 1) := by decide +kernel
theorem dL_law_580 : decode cL_law 580 = .ok (.invokevirtual 74, 3) := by decide +kernel
theorem dL_law_583 : decode cL_law 583 = .ok (.aload_n 2, 1) := by decide +kernel
theorem dL_law_584 : decode cL_law 584 = .ok (.aload_n 0, 1) := by decide +kernel
theorem dL_law_585 : decode cL_law 585 = .ok (.iload_n 3, 1) := by decide +kernel
theorem dL_law_586 : decode cL_law 586 = .ok (.iconst 1, 1) := by decide +kernel
theorem dL_law_587 : decode cL_law 587 = .ok (.iadd, 1) := by decide +kernel
theorem dL_law_588 : decode cL_law 588 = .ok (.iaload, 1) := by decide +kernel
theorem dL_law_589 : decode cL_law 589 = .ok (.invokevirtual 77, 3) := by decide +kernel
theorem dL_law_592 : decode cL_law 592 = .ok (.if_icmp .eq 593, 3) := by decide +kernel
theorem dL_law_595 : decode cL_law 595 = .ok (.iconst 0, 1) := by decide +kernel
theorem dL_law_596 : decode cL_law 596 = .ok (.ireturn, 1) := by decide +kernel
theorem dL_law_597 : decode cL_law 597 = .ok (.aload_n 1, 1) := by decide +kernel
theorem dL_law_598 : decode cL_law 598 = .ok (.aload_n 0, 1) := by decide +kernel
theorem dL_law_599 : decode cL_law 599 = .ok (.iload_n 3, 1) := by decide +kernel
theorem dL_law_600 : decode cL_law 600 = .ok (.iconst 1, 1) := by decide +kernel
theorem dL_law_601 : decode cL_law 601 = .ok (.iadd, 1) := by decide +kernel
theorem dL_law_602 : decode cL_law 602 = .ok (.iaload, 1) := by decide +kernel
theorem dL_law_603 : decode cL_law 603 = .ok (.aload_n 0, 1) := by decide +kernel
theorem dL_law_604 : decode cL_law 604 = .ok (.iload_n 3, 1) := by decide +kernel
theorem dL_law_605 : decode cL_law 605 = .ok (.iconst 2, 1) := by decide +kernel
theorem dL_law_606 : decode cL_law 606 = .ok (.iadd, 1) := by decide +kernel
theorem dL_law_607 : decode cL_law 607 = .ok (.iaload, 1) := by decide +kernel
theorem dL_law_608 : decode cL_law 608 = .ok (.invokevirtual 78, 3) := by decide +kernel
theorem dL_law_611 : decode cL_law 611 = .ok (.aload_n 2, 1) := by decide +kernel
theorem dL_law_612 : decode cL_law 612 = .ok (.aload_n 0, 1) := by decide +kernel
theorem dL_law_613 : decode cL_law 613 = .ok (.iload_n 3, 1) := by decide +kernel
theorem dL_law_614 : decode cL_law 614 = .ok (.iconst 1, 1) := by decide +kernel
theorem dL_law_615 : decode cL_law 615 = .ok (.iadd, 1) := by decide +kernel
theorem dL_law_616 : decode cL_law 616 = .ok (.iaload, 1) := by decide +kernel
theorem dL_law_617 : decode cL_law 617 = .ok (.aload_n 0, 1) := by decide +kernel
theorem dL_law_618 : decode cL_law 618 = .ok (.iload_n 3, 1) := by decide +kernel
theorem dL_law_619 : decode cL_law 619 = .ok (.iconst 2, 1) := by decide +kernel
theorem dL_law_620 : decode cL_law 620 = .ok (.iadd, 1) := by decide +kernel
theorem dL_law_621 : decode cL_law 621 = .ok (.iaload, 1) := by decide +kernel
theorem dL_law_622 : decode cL_law 622 = .ok (.invokevirtual 81, 3) := by decide +kernel
theorem dL_law_625 : decode cL_law 625 = .ok (.if_icmp .eq 560, 3) := by decide +kernel
theorem dL_law_628 : decode cL_law 628 = .ok (.iconst 0, 1) := by decide +kernel
theorem dL_law_629 : decode cL_law 629 = .ok (.ireturn, 1) := by decide +kernel
theorem dL_law_630 : decode cL_law 630 = .ok (.aload_n 1, 1) := by decide +kernel
theorem dL_law_631 : decode cL_law 631 = .ok (.invokevirtual 82, 3) := by decide +kernel
theorem dL_law_634 : decode cL_law 634 = .ok (.aload_n 2, 1) := by decide +kernel
theorem dL_law_635 : decode cL_law 635 = .ok (.invokevirtual 85, 3) := by decide +kernel
theorem dL_law_638 : decode cL_law 638 = .ok (.if_icmp .eq 547, 3) := by decide +kernel
theorem dL_law_641 : decode cL_law 641 = .ok (.iconst 0, 1) := by decide +kernel
theorem dL_law_642 : decode cL_law 642 = .ok (.ireturn, 1) := by decide +kernel
theorem dL_law_643 : decode cL_law 643 = .ok (.aload_n 1, 1) := by decide +kernel
theorem dL_law_644 : decode cL_law 644 = .ok (.aload_n 0, 1) := by decide +kernel
theorem dL_law_645 : decode cL_law 645 = .ok (.iload_n 3, 1) := by decide +kernel
theorem dL_law_646 : decode cL_law 646 = .ok (.iconst 1, 1) := by decide +kernel
theorem dL_law_647 : decode cL_law 647 = .ok (.iadd, 1) := by decide +kernel
theorem dL_law_648 : decode cL_law 648 = .ok (.iaload, 1) := by decide +kernel
theorem dL_law_649 : decode cL_law 649 = .ok (.aload_n 0, 1) := by decide +kernel
theorem dL_law_650 : decode cL_law 650 = .ok (.iload_n 3, 1) := by decide +kernel
theorem dL_law_651 : decode cL_law 651 = .ok (.iconst 2, 1) := by decide +kernel
theorem dL_law_652 : decode cL_law 652 = .ok (.iadd, 1) := by decide +kernel
theorem dL_law_653 : decode cL_law 653 = .ok (.iaload, 1) := by decide +kernel
theorem dL_law_654 : decode cL_law 654 = .ok (.aload_n 0, 1) := by decide +kernel
theorem dL_law_655 : decode cL_law 655 = .ok (.iload_n 3, 1) := by decide +kernel
theorem dL_law_656 : decode cL_law 656 = .ok (.iconst 3, 1) := by decide +kernel
theorem dL_law_657 : decode cL_law 657 = .ok (.iadd, 1) := by decide +kernel
theorem dL_law_658 : decode cL_law 658 = .ok (.iaload, 1) := by decide +kernel
theorem dL_law_659 : decode cL_law 659 = .ok (.invokevirtual 86, 3) := by decide +kernel
theorem dL_law_662 : decode cL_law 662 = .ok (.aload_n 2, 1) := by decide +kernel
theorem dL_law_663 : decode cL_law 663 = .ok (.aload_n 0, 1) := by decide +kernel
theorem dL_law_664 : decode cL_law 664 = .ok (.iload_n 3, 1) := by decide +kernel
theorem dL_law_665 : decode cL_law 665 = .ok (.iconst 1, 1) := by decide +kernel
theorem dL_law_666 : decode cL_law 666 = .ok (.iadd, 1) := by decide +kernel
theorem dL_law_667 : decode cL_law 667 = .ok (.iaload, 1) := by decide +kernel
theorem dL_law_668 : decode cL_law 668 = .ok (.aload_n 0, 1) := by decide +kernel
theorem dL_law_669 : decode cL_law 669 = .ok (.iload_n 3, 1) := by decide +kernel
theorem dL_law_670 : decode cL_law 670 = .ok (.iconst 2, 1) := by decide +kernel
theorem dL_law_671 : decode cL_law 671 = .ok (.iadd, 1) := by decide +kernel
theorem dL_law_672 : decode cL_law 672 = .ok (.iaload, 1) := by decide +kernel
theorem dL_law_673 : decode cL_law 673 = .ok (.aload_n 0, 1) := by decide +kernel
theorem dL_law_674 : decode cL_law 674 = .ok (.iload_n 3, 1) := by decide +kernel
theorem dL_law_675 : decode cL_law 675 = .ok (.iconst 3, 1) := by decide +kernel
theorem dL_law_676 : decode cL_law 676 = .ok (.iadd, 1) := by decide +kernel
theorem dL_law_677 : decode cL_law 677 = .ok (.iaload, 1) := by decide +kernel
theorem dL_law_678 : decode cL_law 678 = .ok (.invokevirtual 90, 3) := by decide +kernel
theorem dL_law_681 : decode cL_law 681 = .ok (.if_icmp .eq 504, 3) := by decide +kernel
theorem dL_law_684 : decode cL_law 684 = .ok (.iconst 0, 1) := by decide +kernel
theorem dL_law_685 : decode cL_law 685 = .ok (.ireturn, 1) := by decide +kernel
theorem dL_law_686 : decode cL_law 686 = .ok (.aload_n 1, 1) := by decide +kernel
theorem dL_law_687 : decode cL_law 687 = .ok (.invokevirtual 91, 3) := by decide +kernel
theorem dL_law_690 : decode cL_law 690 = .ok (.aload_n 2, 1) := by decide +kernel
theorem dL_law_691 : decode cL_law 691 = .ok (.invokevirtual 94, 3) := by decide +kernel
theorem dL_law_694 : decode cL_law 694 = .ok (.if_icmp .eq 491, 3) := by decide +kernel
theorem dL_law_697 : decode cL_law 697 = .ok (.iconst 0, 1) := by decide +kernel
theorem dL_law_698 : decode cL_law 698 = .ok (.ireturn, 1) := by decide +kernel
theorem dL_law_699 : decode cL_law 699 = .ok (.aload_n 1, 1) := by decide +kernel
theorem dL_law_700 : decode cL_law 700 = .ok (.invokevirtual 95, 3) := by decide +kernel
theorem dL_law_703 : decode cL_law 703 = .ok (.aload_n 2, 1) := by decide +kernel
theorem dL_law_704 : decode cL_law 704 = .ok (.invokevirtual 98, 3) := by decide +kernel
theorem dL_law_707 : decode cL_law 707 = .ok (.if_icmp .eq 478, 3) := by decide +kernel
theorem dL_law_710 : decode cL_law 710 = .ok (.iconst 0, 1) := by decide +kernel
theorem dL_law_711 : decode cL_law 711 = .ok (.ireturn, 1) := by decide +kernel
theorem dL_law_712 : decode cL_law 712 = .ok (.aload_n 1, 1) := by decide +kernel
theorem dL_law_713 : decode cL_law 713 = .ok (.aload_n 0, 1) := by decide +kernel
theorem dL_law_714 : decode cL_law 714 = .ok (.iload_n 3, 1) := by decide +kernel
theorem dL_law_715 : decode cL_law 715 = .ok (.iconst 1, 1) := by decide +kernel
theorem dL_law_716 : decode cL_law 716 = .ok (.iadd, 1) := by decide +kernel
theorem dL_law_717 : decode cL_law 717 = .ok (.iaload, 1) := by decide +kernel
theorem dL_law_718 : decode cL_law 718 = .ok (.aload_n 0, 1) := by decide +kernel
theorem dL_law_719 : decode cL_law 719 = .ok (.iload_n 3, 1) := by decide +kernel
theorem dL_law_720 : decode cL_law 720 = .ok (.iconst 2, 1) := by decide +kernel
theorem dL_law_721 : decode cL_law 721 = .ok (.iadd, 1) := by decide +kernel
theorem dL_law_722 : decode cL_law 722 = .ok (.iaload, 1) := by decide +kernel
theorem dL_law_723 : decode cL_law 723 = .ok (.invokevirtual 99, 3) := by decide +kernel
theorem dL_law_726 : decode cL_law 726 = .ok (.aload_n 2, 1) := by decide +kernel
theorem dL_law_727 : decode cL_law 727 = .ok (.aload_n 0, 1) := by decide +kernel
theorem dL_law_728 : decode cL_law 728 = .ok (.iload_n 3, 1) := by decide +kernel
theorem dL_law_729 : decode cL_law 729 = .ok (.iconst 1, 1) := by decide +kernel
theorem dL_law_730 : decode cL_law 730 = .ok (.iadd, 1) := by decide +kernel
theorem dL_law_731 : decode cL_law 731 = .ok (.iaload, 1) := by decide +kernel
theorem dL_law_732 : decode cL_law 732 = .ok (.aload_n 0, 1) := by decide +kernel
theorem dL_law_733 : decode cL_law 733 = .ok (.iload_n 3, 1) := by decide +kernel
theorem dL_law_734 : decode cL_law 734 = .ok (.iconst 2, 1) := by decide +kernel
theorem dL_law_735 : decode cL_law 735 = .ok (.iadd, 1) := by decide +kernel
theorem dL_law_736 : decode cL_law 736 = .ok (.iaload, 1) := by decide +kernel
theorem dL_law_737 : decode cL_law 737 = .ok (.invokevirtual 102, 3) := by decide +kernel
theorem dL_law_740 : decode cL_law 740 = .ok (.if_icmp .eq 445, 3) := by decide +kernel
theorem dL_law_743 : decode cL_law 743 = .ok (.iconst 0, 1) := by decide +kernel
theorem dL_law_744 : decode cL_law 744 = .ok (.ireturn, 1) := by decide +kernel
theorem dL_law_745 : decode cL_law 745 = .ok (.aload_n 1, 1) := by decide +kernel
theorem dL_law_746 : decode cL_law 746 = .ok (.aload_n 0, 1) := by decide +kernel
theorem dL_law_747 : decode cL_law 747 = .ok (.iload_n 3, 1) := by decide +kernel
theorem dL_law_748 : decode cL_law 748 = .ok (.iconst 1, 1) := by decide +kernel
theorem dL_law_749 : decode cL_law 749 = .ok (.iadd, 1) := by decide +kernel
theorem dL_law_750 : decode cL_law 750 = .ok (.iaload, 1) := by decide +kernel
theorem dL_law_751 : decode cL_law 751 = .ok (.aload_n 0, 1) := by decide +kernel
theorem dL_law_752 : decode cL_law 752 = .ok (.iload_n 3, 1) := by decide +kernel
theorem dL_law_753 : decode cL_law 753 = .ok (.iconst 2, 1) := by decide +kernel
theorem dL_law_754 : decode cL_law 754 = .ok (.iadd, 1) := by decide +kernel
theorem dL_law_755 : decode cL_law 755 = .ok (.iaload, 1) := by decide +kernel
theorem dL_law_756 : decode cL_law 756 = .ok (.invokevirtual 103, 3) := by decide +kernel
theorem dL_law_759 : decode cL_law 759 = .ok (.aload_n 2, 1) := by decide +kernel
theorem dL_law_760 : decode cL_law 760 = .ok (.aload_n 0, 1) := by decide +kernel
theorem dL_law_761 : decode cL_law 761 = .ok (.iload_n 3, 1) := by decide +kernel
theorem dL_law_762 : decode cL_law 762 = .ok (.iconst 1, 1) := by decide +kernel
theorem dL_law_763 : decode cL_law 763 = .ok (.iadd, 1) := by decide +kernel
theorem dL_law_764 : decode cL_law 764 = .ok (.iaload, 1) := by decide +kernel
theorem dL_law_765 : decode cL_law 765 = .ok (.aload_n 0, 1) := by decide +kernel
theorem dL_law_766 : decode cL_law 766 = .ok (.iload_n 3, 1) := by decide +kernel
theorem dL_law_767 : decode cL_law 767 = .ok (.iconst 2, 1) := by decide +kernel
theorem dL_law_768 : decode cL_law 768 = .ok (.iadd, 1) := by decide +kernel
theorem dL_law_769 : decode cL_law 769 = .ok (.iaload, 1) := by decide +kernel
theorem dL_law_770 : decode cL_law 770 = .ok (.invokevirtual 106, 3) := by decide +kernel
theorem dL_law_773 : decode cL_law 773 = .ok (.if_icmp .eq 412, 3) := by decide +kernel
theorem dL_law_776 : decode cL_law 776 = .ok (.iconst 0, 1) := by decide +kernel
theorem dL_law_777 : decode cL_law 777 = .ok (.ireturn, 1) := by decide +kernel
theorem dL_law_778 : decode cL_law 778 = .ok (.aload_n 1, 1) := by decide +kernel
theorem dL_law_779 : decode cL_law 779 = .ok (.aload_n 0, 1) := by decide +kernel
theorem dL_law_780 : decode cL_law 780 = .ok (.iload_n 3, 1) := by decide +kernel
theorem dL_law_781 : decode cL_law 781 = .ok (.iconst 1, 1) := by decide +kernel
theorem dL_law_782 : decode cL_law 782 = .ok (.iadd, 1) := by decide +kernel
theorem dL_law_783 : decode cL_law 783 = .ok (.iaload, 1) := by decide +kernel
theorem dL_law_784 : decode cL_law 784 = .ok (.aload_n 0, 1) := by decide +kernel
theorem dL_law_785 : decode cL_law 785 = .ok (.iload_n 3, 1) := by decide +kernel
theorem dL_law_786 : decode cL_law 786 = .ok (.iconst 2, 1) := by decide +kernel
theorem dL_law_787 : decode cL_law 787 = .ok (.iadd, 1) := by decide +kernel
theorem dL_law_788 : decode cL_law 788 = .ok (.iaload, 1) := by decide +kernel
theorem dL_law_789 : decode cL_law 789 = .ok (.aload_n 0, 1) := by decide +kernel
theorem dL_law_790 : decode cL_law 790 = .ok (.iload_n 3, 1) := by decide +kernel
theorem dL_law_791 : decode cL_law 791 = .ok (.iconst 3, 1) := by decide +kernel
theorem dL_law_792 : decode cL_law 792 = .ok (.iadd, 1) := by decide +kernel
theorem dL_law_793 : decode cL_law 793 = .ok (.iaload, 1) := by decide +kernel
theorem dL_law_794 : decode cL_law 794 = .ok (.aload_n 0, 1) := by decide +kernel
theorem dL_law_795 : decode cL_law 795 = .ok (.iload_n 3, 1) := by decide +kernel
theorem dL_law_796 : decode cL_law 796 = .ok (.iconst 4, 1) := by decide +kernel
theorem dL_law_797 : decode cL_law 797 = .ok (.iadd, 1) := by decide +kernel
theorem dL_law_798 : decode cL_law 798 = .ok (.iaload, 1) := by decide +kernel
theorem dL_law_799 : decode cL_law 799 = .ok (.aload_n 0, 1) := by decide +kernel
theorem dL_law_800 : decode cL_law 800 = .ok (.iload_n 3, 1) := by decide +kernel
theorem dL_law_801 : decode cL_law 801 = .ok (.iconst 5, 1) := by decide +kernel
theorem dL_law_802 : decode cL_law 802 = .ok (.iadd, 1) := by decide +kernel
theorem dL_law_803 : decode cL_law 803 = .ok (.iaload, 1) := by decide +kernel
theorem dL_law_804 : decode cL_law 804 = .ok (.invokevirtual 107, 3) := by decide +kernel
theorem dL_law_807 : decode cL_law 807 = .ok (.aload_n 2, 1) := by decide +kernel
theorem dL_law_808 : decode cL_law 808 = .ok (.aload_n 0, 1) := by decide +kernel
theorem dL_law_809 : decode cL_law 809 = .ok (.iload_n 3, 1) := by decide +kernel
theorem dL_law_810 : decode cL_law 810 = .ok (.iconst 1, 1) := by decide +kernel
theorem dL_law_811 : decode cL_law 811 = .ok (.iadd, 1) := by decide +kernel
theorem dL_law_812 : decode cL_law 812 = .ok (.iaload, 1) := by decide +kernel
theorem dL_law_813 : decode cL_law 813 = .ok (.aload_n 0, 1) := by decide +kernel
theorem dL_law_814 : decode cL_law 814 = .ok (.iload_n 3, 1) := by decide +kernel
theorem dL_law_815 : decode cL_law 815 = .ok (.iconst 2, 1) := by decide +kernel
theorem dL_law_816 : decode cL_law 816 = .ok (.iadd, 1) := by decide +kernel
theorem dL_law_817 : decode cL_law 817 = .ok (.iaload, 1) := by decide +kernel
theorem dL_law_818 : decode cL_law 818 = .ok (.aload_n 0, 1) := by decide +kernel
theorem dL_law_819 : decode cL_law 819 = .ok (.iload_n 3, 1) := by decide +kernel
theorem dL_law_820 : decode cL_law 820 = .ok (.iconst 3, 1) := by decide +kernel
theorem dL_law_821 : decode cL_law 821 = .ok (.iadd, 1) := by decide +kernel
theorem dL_law_822 : decode cL_law 822 = .ok (.iaload, 1) := by decide +kernel
theorem dL_law_823 : decode cL_law 823 = .ok (.aload_n 0, 1) := by decide +kernel
theorem dL_law_824 : decode cL_law 824 = .ok (.iload_n 3, 1) := by decide +kernel
theorem dL_law_825 : decode cL_law 825 = .ok (.iconst 4, 1) := by decide +kernel
theorem dL_law_826 : decode cL_law 826 = .ok (.iadd, 1) := by decide +kernel
theorem dL_law_827 : decode cL_law 827 = .ok (.iaload, 1) := by decide +kernel
theorem dL_law_828 : decode cL_law 828 = .ok (.aload_n 0, 1) := by decide +kernel
theorem dL_law_829 : decode cL_law 829 = .ok (.iload_n 3, 1) := by decide +kernel
theorem dL_law_830 : decode cL_law 830 = .ok (.iconst 5, 1) := by decide +kernel
theorem dL_law_831 : decode cL_law 831 = .ok (.iadd, 1) := by decide +kernel
theorem dL_law_832 : decode cL_law 832 = .ok (.iaload, 1) := by decide +kernel
theorem dL_law_833 : decode cL_law 833 = .ok (.invokevirtual 110, 3) := by decide +kernel
theorem dL_law_836 : decode cL_law 836 = .ok (.if_icmp .eq 349, 3) := by decide +kernel
theorem dL_law_839 : decode cL_law 839 = .ok (.iconst 0, 1) := by decide +kernel
theorem dL_law_840 : decode cL_law 840 = .ok (.ireturn, 1) := by decide +kernel
theorem dL_law_841 : decode cL_law 841 = .ok (.aload_n 1, 1) := by decide +kernel
theorem dL_law_842 : decode cL_law 842 = .ok (.aload_n 0, 1) := by decide +kernel
theorem dL_law_843 : decode cL_law 843 = .ok (.iload_n 3, 1) := by decide +kernel
theorem dL_law_844 : decode cL_law 844 = .ok (.iconst 1, 1) := by decide +kernel
theorem dL_law_845 : decode cL_law 845 = .ok (.iadd, 1) := by decide +kernel
theorem dL_law_846 : decode cL_law 846 = .ok (.iaload, 1) := by decide +kernel
theorem dL_law_847 : decode cL_law 847 = .ok (.aload_n 0, 1) := by decide +kernel
theorem dL_law_848 : decode cL_law 848 = .ok (.iload_n 3, 1) := by decide +kernel
theorem dL_law_849 : decode cL_law 849 = .ok (.iconst 2, 1) := by decide +kernel
theorem dL_law_850 : decode cL_law 850 = .ok (.iadd, 1) := by decide +kernel
theorem dL_law_851 : decode cL_law 851 = .ok (.iaload, 1) := by decide +kernel
theorem dL_law_852 : decode cL_law 852 = .ok (.aload_n 0, 1) := by decide +kernel
theorem dL_law_853 : decode cL_law 853 = .ok (.iload_n 3, 1) := by decide +kernel
theorem dL_law_854 : decode cL_law 854 = .ok (.iconst 3, 1) := by decide +kernel
theorem dL_law_855 : decode cL_law 855 = .ok (.iadd, 1) := by decide +kernel
theorem dL_law_856 : decode cL_law 856 = .ok (.iaload, 1) := by decide +kernel
theorem dL_law_857 : decode cL_law 857 = .ok (.aload_n 0, 1) := by decide +kernel
theorem dL_law_858 : decode cL_law 858 = .ok (.iload_n 3, 1) := by decide +kernel
theorem dL_law_859 : decode cL_law 859 = .ok (.iconst 4, 1) := by decide +kernel
theorem dL_law_860 : decode cL_law 860 = .ok (.iadd, 1) := by decide +kernel
theorem dL_law_861 : decode cL_law 861 = .ok (.iaload, 1) := by decide +kernel
theorem dL_law_862 : decode cL_law 862 = .ok (.invokevirtual 111, 3) := by decide +kernel
theorem dL_law_865 : decode cL_law 865 = .ok (.aload_n 2, 1) := by decide +kernel
theorem dL_law_866 : decode cL_law 866 = .ok (.aload_n 0, 1) := by decide +kernel
theorem dL_law_867 : decode cL_law 867 = .ok (.iload_n 3, 1) := by decide +kernel
theorem dL_law_868 : decode cL_law 868 = .ok (.iconst 1, 1) := by decide +kernel
theorem dL_law_869 : decode cL_law 869 = .ok (.iadd, 1) := by decide +kernel
theorem dL_law_870 : decode cL_law 870 = .ok (.iaload, 1) := by decide +kernel
theorem dL_law_871 : decode cL_law 871 = .ok (.aload_n 0, 1) := by decide +kernel
theorem dL_law_872 : decode cL_law 872 = .ok (.iload_n 3, 1) := by decide +kernel
theorem dL_law_873 : decode cL_law 873 = .ok (.iconst 2, 1) := by decide +kernel
theorem dL_law_874 : decode cL_law 874 = .ok (.iadd, 1) := by decide +kernel
theorem dL_law_875 : decode cL_law 875 = .ok (.iaload, 1) := by decide +kernel
theorem dL_law_876 : decode cL_law 876 = .ok (.aload_n 0, 1) := by decide +kernel
theorem dL_law_877 : decode cL_law 877 = .ok (.iload_n 3, 1) := by decide +kernel
theorem dL_law_878 : decode cL_law 878 = .ok (.iconst 3, 1) := by decide +kernel
theorem dL_law_879 : decode cL_law 879 = .ok (.iadd, 1) := by decide +kernel
theorem dL_law_880 : decode cL_law 880 = .ok (.iaload, 1) := by decide +kernel
theorem dL_law_881 : decode cL_law 881 = .ok (.aload_n 0, 1) := by decide +kernel
theorem dL_law_882 : decode cL_law 882 = .ok (.iload_n 3, 1) := by decide +kernel
theorem dL_law_883 : decode cL_law 883 = .ok (.iconst 4, 1) := by decide +kernel
theorem dL_law_884 : decode cL_law 884 = .ok (.iadd, 1) := by decide +kernel
theorem dL_law_885 : decode cL_law 885 = .ok (.iaload, 1) := by decide +kernel
theorem dL_law_886 : decode cL_law 886 = .ok (.invokevirtual 115, 3) := by decide +kernel
theorem dL_law_889 : decode cL_law 889 = .ok (.if_icmp .eq 296, 3) := by decide +kernel
theorem dL_law_892 : decode cL_law 892 = .ok (.iconst 0, 1) := by decide +kernel
theorem dL_law_893 : decode cL_law 893 = .ok (.ireturn, 1) := by decide +kernel
theorem dL_law_894 : decode cL_law 894 = .ok (.aload_n 1, 1) := by decide +kernel
theorem dL_law_895 : decode cL_law 895 = .ok (.aload_n 0, 1) := by decide +kernel
theorem dL_law_896 : decode cL_law 896 = .ok (.iload_n 3, 1) := by decide +kernel
theorem dL_law_897 : decode cL_law 897 = .ok (.iconst 1, 1) := by decide +kernel
theorem dL_law_898 : decode cL_law 898 = .ok (.iadd, 1) := by decide +kernel
theorem dL_law_899 : decode cL_law 899 = .ok (.iaload, 1) := by decide +kernel
theorem dL_law_900 : decode cL_law 900 = .ok (.aload_n 0, 1) := by decide +kernel
theorem dL_law_901 : decode cL_law 901 = .ok (.iload_n 3, 1) := by decide +kernel
theorem dL_law_902 : decode cL_law 902 = .ok (.iconst 2, 1) := by decide +kernel
theorem dL_law_903 : decode cL_law 903 = .ok (.iadd, 1) := by decide +kernel
theorem dL_law_904 : decode cL_law 904 = .ok (.iaload, 1) := by decide +kernel
theorem dL_law_905 : decode cL_law 905 = .ok (.aload_n 0, 1) := by decide +kernel
theorem dL_law_906 : decode cL_law 906 = .ok (.iload_n 3, 1) := by decide +kernel
theorem dL_law_907 : decode cL_law 907 = .ok (.iconst 3, 1) := by decide +kernel
theorem dL_law_908 : decode cL_law 908 = .ok (.iadd, 1) := by decide +kernel
theorem dL_law_909 : decode cL_law 909 = .ok (.iaload, 1) := by decide +kernel
theorem dL_law_910 : decode cL_law 910 = .ok (.aload_n 0, 1) := by decide +kernel
theorem dL_law_911 : decode cL_law 911 = .ok (.iload_n 3, 1) := by decide +kernel
theorem dL_law_912 : decode cL_law 912 = .ok (.iconst 4, 1) := by decide +kernel
theorem dL_law_913 : decode cL_law 913 = .ok (.iadd, 1) := by decide +kernel
theorem dL_law_914 : decode cL_law 914 = .ok (.iaload, 1) := by decide +kernel
theorem dL_law_915 : decode cL_law 915 = .ok (.aload_n 0, 1) := by decide +kernel
