theorem dX7_serve_99 : decode cX7_serve 99 = .ok (.invokevirtual 244, 3) := by decide +kernel
theorem dX7_serve_102 : decode cX7_serve 102 = .ok (.aload_n 2, 1) := by decide +kernel
theorem dX7_serve_103 : decode cX7_serve 103 = .ok (.iload 5, 2) := by decide +kernel
theorem dX7_serve_105 : decode cX7_serve 105 = .ok (.invokevirtual 155, 3) := by decide +kernel
theorem dX7_serve_108 : decode cX7_serve 108 = .ok (.aload_n 2, 1) := by decide +kernel
theorem dX7_serve_109 : decode cX7_serve 109 = .ok (.dup, 1) := by decide +kernel
theorem dX7_serve_110 : decode cX7_serve 110 = .ok (.getfield 238, 3) := by decide +kernel
theorem dX7_serve_113 : decode cX7_serve 113 = .ok (.iconst 1, 1) := by decide +kernel
theorem dX7_serve_114 : decode cX7_serve 114 = .ok (.isub, 1) := by decide +kernel
theorem dX7_serve_115 : decode cX7_serve 115 = .ok (.putfield 238, 3) := by decide +kernel
theorem dX7_serve_118 : decode cX7_serve 118 = .ok (.aload_n 2, 1) := by decide +kernel
theorem dX7_serve_119 : decode cX7_serve 119 = .ok (.aload_n 0, 1) := by decide +kernel
theorem dX7_serve_120 : decode cX7_serve 120 = .ok (.getfield 48, 3) := by decide +kernel
theorem dX7_serve_123 : decode cX7_serve 123 = .ok (.aload_n 0, 1) := by decide +kernel
theorem dX7_serve_124 : decode cX7_serve 124 = .ok (.getfield 34, 3) := by decide +kernel
theorem dX7_serve_127 : decode cX7_serve 127 = .ok (.iload_n 1, 1) := by decide +kernel
theorem dX7_serve_128 : decode cX7_serve 128 = .ok (.iconst 1, 1) := by decide +kernel
theorem dX7_serve_129 : decode cX7_serve 129 = .ok (.invokevirtual 67, 3) := by decide +kernel
theorem dX7_serve_132 : decode cX7_serve 132 = .ok (.iadd, 1) := by decide +kernel
theorem dX7_serve_133 : decode cX7_serve 133 = .ok (.putfield 235, 3) := by decide +kernel
theorem dX7_serve_136 : decode cX7_serve 136 = .ok (.aload 6, 2) := by decide +kernel
theorem dX7_serve_138 : decode cX7_serve 138 = .ok (.iconst (-1), 1) := by decide +kernel
theorem dX7_serve_139 : decode cX7_serve 139 = .ok (.putfield 64, 3) := by decide +kernel
theorem dX7_serve_142 : decode cX7_serve 142 = .ok (.aload_n 0, 1) := by decide +kernel
theorem dX7_serve_143 : decode cX7_serve 143 = .ok (.aload 6, 2) := by decide +kernel
theorem dX7_serve_145 : decode cX7_serve 145 = .ok (.getfield 140, 3) := by decide +kernel
theorem dX7_serve_148 : decode cX7_serve 148 = .ok (.aload_n 0, 1) := by decide +kernel
theorem dX7_serve_149 : decode cX7_serve 149 = .ok (.getfield 48, 3) := by decide +kernel
theorem dX7_serve_152 : decode cX7_serve 152 = .ok (.aload 6, 2) := by decide +kernel
theorem dX7_serve_154 : decode cX7_serve 154 = .ok (.getfield 188, 3) := by decide +kernel
theorem dX7_serve_157 : decode cX7_serve 157 = .ok (.isub, 1) := by decide +kernel
theorem dX7_serve_158 : decode cX7_serve 158 = .ok (.invokevirtual 247, 3) := by decide +kernel
theorem dX7_serve_161 : decode cX7_serve 161 = .ok (.return_, 1) := by decide +kernel
theorem dX7_countServed_0 : decode cX7_countServed 0 = .ok (.aload_n 0, 1) := by decide +kernel
theorem dX7_countServed_1 : decode cX7_countServed 1 = .ok (.iload_n 1, 1) := by decide +kernel
theorem dX7_countServed_2 : decode cX7_countServed 2 = .ok (.iconst 1, 1) := by decide +kernel
theorem dX7_countServed_3 : decode cX7_countServed 3 = .ok (.iconst 1, 1) := by decide +kernel
theorem dX7_countServed_4 : decode cX7_countServed 4 = .ok (.invokevirtual 133, 3) := by decide +kernel
theorem dX7_countServed_7 : decode cX7_countServed 7 = .ok (.aload_n 0, 1) := by decide +kernel
theorem dX7_countServed_8 : decode cX7_countServed 8 = .ok (.iload_n 1, 1) := by decide +kernel
theorem dX7_countServed_9 : decode cX7_countServed 9 = .ok (.iconst 3, 1) := by decide +kernel
theorem dX7_countServed_10 : decode cX7_countServed 10 = .ok (.iload_n 2, 1) := by decide +kernel
theorem dX7_countServed_11 : decode cX7_countServed 11 = .ok (.invokevirtual 133, 3) := by decide +kernel
theorem dX7_countServed_14 : decode cX7_countServed 14 = .ok (.aload_n 0, 1) := by decide +kernel
theorem dX7_countServed_15 : decode cX7_countServed 15 = .ok (.iload_n 1, 1) := by decide +kernel
theorem dX7_countServed_16 : decode cX7_countServed 16 = .ok (.iconst 4, 1) := by decide +kernel
theorem dX7_countServed_17 : decode cX7_countServed 17 = .ok (.iload_n 2, 1) := by decide +kernel
theorem dX7_countServed_18 : decode cX7_countServed 18 = .ok (.iload_n 2, 1) := by decide +kernel
theorem dX7_countServed_19 : decode cX7_countServed 19 = .ok (.imul, 1) := by decide +kernel
theorem dX7_countServed_20 : decode cX7_countServed 20 = .ok (.invokevirtual 133, 3) := by decide +kernel
theorem dX7_countServed_23 : decode cX7_countServed 23 = .ok (.aload_n 0, 1) := by decide +kernel
theorem dX7_countServed_24 : decode cX7_countServed 24 = .ok (.iload_n 1, 1) := by decide +kernel
theorem dX7_countServed_25 : decode cX7_countServed 25 = .ok (.iconst 5, 1) := by decide +kernel
theorem dX7_countServed_26 : decode cX7_countServed 26 = .ok (.iload_n 2, 1) := by decide +kernel
theorem dX7_countServed_27 : decode cX7_countServed 27 = .ok (.aload_n 0, 1) := by decide +kernel
theorem dX7_countServed_28 : decode cX7_countServed 28 = .ok (.iload_n 1, 1) := by decide +kernel
theorem dX7_countServed_29 : decode cX7_countServed 29 = .ok (.iconst 5, 1) := by decide +kernel
theorem dX7_countServed_30 : decode cX7_countServed 30 = .ok (.invokevirtual 115, 3) := by decide +kernel
theorem dX7_countServed_33 : decode cX7_countServed 33 = .ok (.isub, 1) := by decide +kernel
theorem dX7_countServed_34 : decode cX7_countServed 34 = .ok (.iconst 0, 1) := by decide +kernel
theorem dX7_countServed_35 : decode cX7_countServed 35 = .ok (.invokestatic 250, 3) := by decide +kernel
theorem dX7_countServed_38 : decode cX7_countServed 38 = .ok (.invokevirtual 133, 3) := by decide +kernel
theorem dX7_countServed_41 : decode cX7_countServed 41 = .ok (.aload_n 0, 1) := by decide +kernel
theorem dX7_countServed_42 : decode cX7_countServed 42 = .ok (.iload_n 1, 1) := by decide +kernel
theorem dX7_countServed_43 : decode cX7_countServed 43 = .ok (.bipush 6, 2) := by decide +kernel
theorem dX7_countServed_45 : decode cX7_countServed 45 = .ok (.aload_n 0, 1) := by decide +kernel
theorem dX7_countServed_46 : decode cX7_countServed 46 = .ok (.getfield 34, 3) := by decide +kernel
theorem dX7_countServed_49 : decode cX7_countServed 49 = .ok (.iload_n 1, 1) := by decide +kernel
theorem dX7_countServed_50 : decode cX7_countServed 50 = .ok (.iconst 1, 1) := by decide +kernel
theorem dX7_countServed_51 : decode cX7_countServed 51 = .ok (.invokevirtual 191, 3) := by decide +kernel
theorem dX7_countServed_54 : decode cX7_countServed 54 = .ok (.invokevirtual 133, 3) := by decide +kernel
theorem dX7_countServed_57 : decode cX7_countServed 57 = .ok (.return_, 1) := by decide +kernel
theorem dX7_someGiveUpAndOthersPay_0 : decode cX7_someGiveUpAndOthersPay 0 = .ok (.iconst 0, 1) := by decide +kernel
theorem dX7_someGiveUpAndOthersPay_1 : decode cX7_someGiveUpAndOthersPay 1 = .ok (.istore_n 1, 1) := by decide +kernel
theorem dX7_someGiveUpAndOthersPay_2 : decode cX7_someGiveUpAndOthersPay 2 = .ok (.iload_n 1, 1) := by decide +kernel
theorem dX7_someGiveUpAndOthersPay_3 : decode cX7_someGiveUpAndOthersPay 3 = .ok (.bipush 30, 2) := by decide +kernel
theorem dX7_someGiveUpAndOthersPay_5 : decode cX7_someGiveUpAndOthersPay 5 = .ok (.if_icmp .ge 117, 3) := by decide +kernel
theorem dX7_someGiveUpAndOthersPay_8 : decode cX7_someGiveUpAndOthersPay 8 = .ok (.aload_n 0, 1) := by decide +kernel
theorem dX7_someGiveUpAndOthersPay_9 : decode cX7_someGiveUpAndOthersPay 9 = .ok (.iload_n 1, 1) := by decide +kernel
theorem dX7_someGiveUpAndOthersPay_10 : decode cX7_someGiveUpAndOthersPay 10 = .ok (.invokevirtual 97, 3) := by decide +kernel
theorem dX7_someGiveUpAndOthersPay_13 : decode cX7_someGiveUpAndOthersPay 13 = .ok (.astore_n 2, 1) := by decide +kernel
theorem dX7_someGiveUpAndOthersPay_14 : decode cX7_someGiveUpAndOthersPay 14 = .ok (.aload_n 2, 1) := by decide +kernel
theorem dX7_someGiveUpAndOthersPay_15 : decode cX7_someGiveUpAndOthersPay 15 = .ok (.ifnonnull 6, 3) := by decide +kernel
theorem dX7_someGiveUpAndOthersPay_18 : decode cX7_someGiveUpAndOthersPay 18 = .ok (.goto 98, 3) := by decide +kernel
theorem dX7_someGiveUpAndOthersPay_21 : decode cX7_someGiveUpAndOthersPay 21 = .ok (.aload_n 0, 1) := by decide +kernel
theorem dX7_someGiveUpAndOthersPay_22 : decode cX7_someGiveUpAndOthersPay 22 = .ok (.getfield 48, 3) := by decide +kernel
theorem dX7_someGiveUpAndOthersPay_25 : decode cX7_someGiveUpAndOthersPay 25 = .ok (.aload_n 2, 1) := by decide +kernel
theorem dX7_someGiveUpAndOthersPay_26 : decode cX7_someGiveUpAndOthersPay 26 = .ok (.getfield 188, 3) := by decide +kernel
theorem dX7_someGiveUpAndOthersPay_29 : decode cX7_someGiveUpAndOthersPay 29 = .ok (.isub, 1) := by decide +kernel
theorem dX7_someGiveUpAndOthersPay_30 : decode cX7_someGiveUpAndOthersPay 30 = .ok (.aload_n 0, 1) := by decide +kernel
theorem dX7_someGiveUpAndOthersPay_31 : decode cX7_someGiveUpAndOthersPay 31 = .ok (.getfield 34, 3) := by decide +kernel
theorem dX7_someGiveUpAndOthersPay_34 : decode cX7_someGiveUpAndOthersPay 34 = .ok (.aload_n 2, 1) := by decide +kernel
theorem dX7_someGiveUpAndOthersPay_35 : decode cX7_someGiveUpAndOthersPay 35 = .ok (.getfield 140, 3) := by decide +kernel
theorem dX7_someGiveUpAndOthersPay_38 : decode cX7_someGiveUpAndOthersPay 38 = .ok (.iconst 2, 1) := by decide +kernel
theorem dX7_someGiveUpAndOthersPay_39 : decode cX7_someGiveUpAndOthersPay 39 = .ok (.invokevirtual 191, 3) := by decide +kernel
theorem dX7_someGiveUpAndOthersPay_42 : decode cX7_someGiveUpAndOthersPay 42 = .ok (.if_icmp .lt 7, 3) := by decide +kernel
theorem dX7_someGiveUpAndOthersPay_45 : decode cX7_someGiveUpAndOthersPay 45 = .ok (.iconst 1, 1) := by decide +kernel
theorem dX7_someGiveUpAndOthersPay_46 : decode cX7_someGiveUpAndOthersPay 46 = .ok (.goto 4, 3) := by decide +kernel
theorem dX7_someGiveUpAndOthersPay_49 : decode cX7_someGiveUpAndOthersPay 49 = .ok (.iconst 0, 1) := by decide +kernel
theorem dX7_someGiveUpAndOthersPay_50 : decode cX7_someGiveUpAndOthersPay 50 = .ok (.istore_n 3, 1) := by decide +kernel
theorem dX7_someGiveUpAndOthersPay_51 : decode cX7_someGiveUpAndOthersPay 51 = .ok (.iload_n 3, 1) := by decide +kernel
theorem dX7_someGiveUpAndOthersPay_52 : decode cX7_someGiveUpAndOthersPay 52 = .ok (.ifCond .ne 17, 3) := by decide +kernel
theorem dX7_someGiveUpAndOthersPay_55 : decode cX7_someGiveUpAndOthersPay 55 = .ok (.aload_n 0, 1) := by decide +kernel
theorem dX7_someGiveUpAndOthersPay_56 : decode cX7_someGiveUpAndOthersPay 56 = .ok (.getfield 48, 3) := by decide +kernel
theorem dX7_someGiveUpAndOthersPay_59 : decode cX7_someGiveUpAndOthersPay 59 = .ok (.aload_n 0, 1) := by decide +kernel
theorem dX7_someGiveUpAndOthersPay_60 : decode cX7_someGiveUpAndOthersPay 60 = .ok (.getfield 34, 3) := by decide +kernel
theorem dX7_someGiveUpAndOthersPay_63 : decode cX7_someGiveUpAndOthersPay 63 = .ok (.invokevirtual 176, 3) := by decide +kernel
theorem dX7_someGiveUpAndOthersPay_66 : decode cX7_someGiveUpAndOthersPay 66 = .ok (.if_icmp .lt 12, 3) := by decide +kernel
theorem dX7_someGiveUpAndOthersPay_69 : decode cX7_someGiveUpAndOthersPay 69 = .ok (.aload_n 0, 1) := by decide +kernel
theorem dX7_someGiveUpAndOthersPay_70 : decode cX7_someGiveUpAndOthersPay 70 = .ok (.iload_n 1, 1) := by decide +kernel
theorem dX7_someGiveUpAndOthersPay_71 : decode cX7_someGiveUpAndOthersPay 71 = .ok (.aload_n 2, 1) := by decide +kernel
theorem dX7_someGiveUpAndOthersPay_72 : decode cX7_someGiveUpAndOthersPay 72 = .ok (.invokevirtual 255, 3) := by decide +kernel
theorem dX7_someGiveUpAndOthersPay_75 : decode cX7_someGiveUpAndOthersPay 75 = .ok (.goto 41, 3) := by decide +kernel
theorem dX7_someGiveUpAndOthersPay_78 : decode cX7_someGiveUpAndOthersPay 78 = .ok (.aload_n 2, 1) := by decide +kernel
theorem dX7_someGiveUpAndOthersPay_79 : decode cX7_someGiveUpAndOthersPay 79 = .ok (.getfield 64, 3) := by decide +kernel
theorem dX7_someGiveUpAndOthersPay_82 : decode cX7_someGiveUpAndOthersPay 82 = .ok (.ifCond .ne 7, 3) := by decide +kernel
theorem dX7_someGiveUpAndOthersPay_85 : decode cX7_someGiveUpAndOthersPay 85 = .ok (.iconst 3, 1) := by decide +kernel
theorem dX7_someGiveUpAndOthersPay_86 : decode cX7_someGiveUpAndOthersPay 86 = .ok (.goto 4, 3) := by decide +kernel
theorem dX7_someGiveUpAndOthersPay_89 : decode cX7_someGiveUpAndOthersPay 89 = .ok (.iconst 4, 1) := by decide +kernel
theorem dX7_someGiveUpAndOthersPay_90 : decode cX7_someGiveUpAndOthersPay 90 = .ok (.istore 4, 2) := by decide +kernel
theorem dX7_someGiveUpAndOthersPay_92 : decode cX7_someGiveUpAndOthersPay 92 = .ok (.aload_n 0, 1) := by decide +kernel
theorem dX7_someGiveUpAndOthersPay_93 : decode cX7_someGiveUpAndOthersPay 93 = .ok (.aload_n 2, 1) := by decide +kernel
theorem dX7_someGiveUpAndOthersPay_94 : decode cX7_someGiveUpAndOthersPay 94 = .ok (.getfield 140, 3) := by decide +kernel
theorem dX7_someGiveUpAndOthersPay_97 : decode cX7_someGiveUpAndOthersPay 97 = .ok (.bipush 6, 2) := by decide +kernel
theorem dX7_someGiveUpAndOthersPay_99 : decode cX7_someGiveUpAndOthersPay 99 = .ok (.aload_n 0, 1) := by decide +kernel
theorem dX7_someGiveUpAndOthersPay_100 : decode cX7_someGiveUpAndOthersPay 100 = .ok (.getfield 34, 3) := by decide +kernel
theorem dX7_someGiveUpAndOthersPay_103 : decode cX7_someGiveUpAndOthersPay 103 = .ok (.aload_n 2, 1) := by decide +kernel
theorem dX7_someGiveUpAndOthersPay_104 : decode cX7_someGiveUpAndOthersPay 104 = .ok (.getfield 140, 3) := by decide +kernel
theorem dX7_someGiveUpAndOthersPay_107 : decode cX7_someGiveUpAndOthersPay 107 = .ok (.iload 4, 2) := by decide +kernel
theorem dX7_someGiveUpAndOthersPay_109 : decode cX7_someGiveUpAndOthersPay 109 = .ok (.invokevirtual 191, 3) := by decide +kernel
theorem dX7_someGiveUpAndOthersPay_112 : decode cX7_someGiveUpAndOthersPay 112 = .ok (.ineg, 1) := by decide +kernel
theorem dX7_someGiveUpAndOthersPay_113 : decode cX7_someGiveUpAndOthersPay 113 = .ok (.invokevirtual 133, 3) := by decide +kernel
theorem dX7_someGiveUpAndOthersPay_116 : decode cX7_someGiveUpAndOthersPay 116 = .ok (.iinc 1 1, 3) := by decide +kernel
theorem dX7_someGiveUpAndOthersPay_119 : decode cX7_someGiveUpAndOthersPay 119 = .ok (.goto (-117), 3) := by decide +kernel
theorem dX7_someGiveUpAndOthersPay_122 : decode cX7_someGiveUpAndOthersPay 122 = .ok (.return_, 1) := by decide +kernel
theorem dX8_init_0 : decode cX8_init 0 = .ok (.aload_n 0, 1) := by decide +kernel
theorem dX8_init_1 : decode cX8_init 1 = .ok (.invokespecial 3, 3) := by decide +kernel
theorem dX8_init_4 : decode cX8_init 4 = .ok (.aload_n 0, 1) := by decide +kernel
theorem dX8_init_5 : decode cX8_init 5 = .ok (.sipush 500, 3) := by decide +kernel
theorem dX8_init_8 : decode cX8_init 8 = .ok (.newarray .int, 2) := by decide +kernel
theorem dX8_init_10 : decode cX8_init 10 = .ok (.putfield 9, 3) := by decide +kernel
theorem dX8_init_13 : decode cX8_init 13 = .ok (.return_, 1) := by decide +kernel
theorem dX8_append_0 : decode cX8_append 0 = .ok (.bipush 24, 2) := by decide +kernel
theorem dX8_append_2 : decode cX8_append 2 = .ok (.istore_n 2, 1) := by decide +kernel
theorem dX8_append_3 : decode cX8_append 3 = .ok (.iload_n 2, 1) := by decide +kernel
theorem dX8_append_4 : decode cX8_append 4 = .ok (.ifCond .lt 45, 3) := by decide +kernel
theorem dX8_append_7 : decode cX8_append 7 = .ok (.aload_n 0, 1) := by decide +kernel
theorem dX8_append_8 : decode cX8_append 8 = .ok (.getfield 15, 3) := by decide +kernel
theorem dX8_append_11 : decode cX8_append 11 = .ok (.sipush 500, 3) := by decide +kernel
theorem dX8_append_14 : decode cX8_append 14 = .ok (.if_icmp .ge 35, 3) := by decide +kernel
theorem dX8_append_17 : decode cX8_append 17 = .ok (.aload_n 0, 1) := by decide +kernel
theorem dX8_append_18 : decode cX8_append 18 = .ok (.getfield 9, 3) := by decide +kernel
theorem dX8_append_21 : decode cX8_append 21 = .ok (.aload_n 0, 1) := by decide +kernel
theorem dX8_append_22 : decode cX8_append 22 = .ok (.getfield 15, 3) := by decide +kernel
theorem dX8_append_25 : decode cX8_append 25 = .ok (.iload_n 1, 1) := by decide +kernel
theorem dX8_append_26 : decode cX8_append 26 = .ok (.iload_n 2, 1) := by decide +kernel
theorem dX8_append_27 : decode cX8_append 27 = .ok (.iushr, 1) := by decide +kernel
theorem dX8_append_28 : decode cX8_append 28 = .ok (.sipush 255, 3) := by decide +kernel
theorem dX8_append_31 : decode cX8_append 31 = .ok (.iand, 1) := by decide +kernel
theorem dX8_append_32 : decode cX8_append 32 = .ok (.iastore, 1) := by decide +kernel
theorem dX8_append_33 : decode cX8_append 33 = .ok (.aload_n 0, 1) := by decide +kernel
theorem dX8_append_34 : decode cX8_append 34 = .ok (.dup, 1) := by decide +kernel
theorem dX8_append_35 : decode cX8_append 35 = .ok (.getfield 15, 3) := by decide +kernel
theorem dX8_append_38 : decode cX8_append 38 = .ok (.iconst 1, 1) := by decide +kernel
theorem dX8_append_39 : decode cX8_append 39 = .ok (.iadd, 1) := by decide +kernel
theorem dX8_append_40 : decode cX8_append 40 = .ok (.putfield 15, 3) := by decide +kernel
theorem dX8_append_43 : decode cX8_append 43 = .ok (.iinc 2 (-8), 3) := by decide +kernel
theorem dX8_append_46 : decode cX8_append 46 = .ok (.goto (-43), 3) := by decide +kernel
theorem dX8_append_49 : decode cX8_append 49 = .ok (.return_, 1) := by decide +kernel
theorem dX8_shorten_0 : decode cX8_shorten 0 = .ok (.iload_n 1, 1) := by decide +kernel
theorem dX8_shorten_1 : decode cX8_shorten 1 = .ok (.ifCond .lt 11, 3) := by decide +kernel
theorem dX8_shorten_4 : decode cX8_shorten 4 = .ok (.iload_n 1, 1) := by decide +kernel
theorem dX8_shorten_5 : decode cX8_shorten 5 = .ok (.aload_n 0, 1) := by decide +kernel
theorem dX8_shorten_6 : decode cX8_shorten 6 = .ok (.getfield 15, 3) := by decide +kernel
theorem dX8_shorten_9 : decode cX8_shorten 9 = .ok (.if_icmp .le 5, 3) := by decide +kernel
theorem dX8_shorten_12 : decode cX8_shorten 12 = .ok (.iconst 0, 1) := by decide +kernel
theorem dX8_shorten_13 : decode cX8_shorten 13 = .ok (.ireturn, 1) := by decide +kernel
theorem dX8_shorten_14 : decode cX8_shorten 14 = .ok (.aload_n 0, 1) := by decide +kernel
theorem dX8_shorten_15 : decode cX8_shorten 15 = .ok (.iload_n 1, 1) := by decide +kernel
theorem dX8_shorten_16 : decode cX8_shorten 16 = .ok (.putfield 15, 3) := by decide +kernel
theorem dX8_shorten_19 : decode cX8_shorten 19 = .ok (.iconst 1, 1) := by decide +kernel
theorem dX8_shorten_20 : decode cX8_shorten 20 = .ok (.ireturn, 1) := by decide +kernel
theorem dX8_begin_0 : decode cX8_begin 0 = .ok (.aload_n 0, 1) := by decide +kernel
theorem dX8_begin_1 : decode cX8_begin 1 = .ok (.iconst 0, 1) := by decide +kernel
theorem dX8_begin_2 : decode cX8_begin 2 = .ok (.putfield 19, 3) := by decide +kernel
theorem dX8_begin_5 : decode cX8_begin 5 = .ok (.aload_n 0, 1) := by decide +kernel
theorem dX8_begin_6 : decode cX8_begin 6 = .ok (.iconst (-1), 1) := by decide +kernel
theorem dX8_begin_7 : decode cX8_begin 7 = .ok (.putfield 22, 3) := by decide +kernel
theorem dX8_begin_10 : decode cX8_begin 10 = .ok (.aload_n 0, 1) := by decide +kernel
theorem dX8_begin_11 : decode cX8_begin 11 = .ok (.invokevirtual 25, 3) := by decide +kernel
theorem dX8_begin_14 : decode cX8_begin 14 = .ok (.return_, 1) := by decide +kernel
theorem dX8_isSound_0 : decode cX8_isSound 0 = .ok (.aload_n 0, 1) := by decide +kernel
theorem dX8_isSound_1 : decode cX8_isSound 1 = .ok (.getfield 22, 3) := by decide +kernel
theorem dX8_isSound_4 : decode cX8_isSound 4 = .ok (.iconst (-1), 1) := by decide +kernel
theorem dX8_isSound_5 : decode cX8_isSound 5 = .ok (.if_icmp .ne 7, 3) := by decide +kernel
theorem dX8_isSound_8 : decode cX8_isSound 8 = .ok (.iconst 1, 1) := by decide +kernel
theorem dX8_isSound_9 : decode cX8_isSound 9 = .ok (.goto 4, 3) := by decide +kernel
theorem dX8_isSound_12 : decode cX8_isSound 12 = .ok (.iconst 0, 1) := by decide +kernel
theorem dX8_isSound_13 : decode cX8_isSound 13 = .ok (.ireturn, 1) := by decide +kernel
theorem dX8_goesOn_0 : decode cX8_goesOn 0 = .ok (.aload_n 0, 1) := by decide +kernel
theorem dX8_goesOn_1 : decode cX8_goesOn 1 = .ok (.getfield 22, 3) := by decide +kernel
theorem dX8_goesOn_4 : decode cX8_goesOn 4 = .ok (.iconst (-1), 1) := by decide +kernel
theorem dX8_goesOn_5 : decode cX8_goesOn 5 = .ok (.if_icmp .ne 14, 3) := by decide +kernel
theorem dX8_goesOn_8 : decode cX8_goesOn 8 = .ok (.aload_n 0, 1) := by decide +kernel
theorem dX8_goesOn_9 : decode cX8_goesOn 9 = .ok (.getfield 28, 3) := by decide +kernel
theorem dX8_goesOn_12 : decode cX8_goesOn 12 = .ok (.ifCond .eq 7, 3) := by decide +kernel
theorem dX8_goesOn_15 : decode cX8_goesOn 15 = .ok (.iconst 1, 1) := by decide +kernel
theorem dX8_goesOn_16 : decode cX8_goesOn 16 = .ok (.goto 4, 3) := by decide +kernel
theorem dX8_goesOn_19 : decode cX8_goesOn 19 = .ok (.iconst 0, 1) := by decide +kernel
theorem dX8_goesOn_20 : decode cX8_goesOn 20 = .ok (.ireturn, 1) := by decide +kernel
theorem dX8_refuse_0 : decode cX8_refuse 0 = .ok (.aload_n 0, 1) := by decide +kernel
theorem dX8_refuse_1 : decode cX8_refuse 1 = .ok (.getfield 22, 3) := by decide +kernel
theorem dX8_refuse_4 : decode cX8_refuse 4 = .ok (.iconst (-1), 1) := by decide +kernel
theorem dX8_refuse_5 : decode cX8_refuse 5 = .ok (.if_icmp .ne 11, 3) := by decide +kernel
theorem dX8_refuse_8 : decode cX8_refuse 8 = .ok (.aload_n 0, 1) := by decide +kernel
theorem dX8_refuse_9 : decode cX8_refuse 9 = .ok (.aload_n 0, 1) := by decide +kernel
theorem dX8_refuse_10 : decode cX8_refuse 10 = .ok (.getfield 31, 3) := by decide +kernel
theorem dX8_refuse_13 : decode cX8_refuse 13 = .ok (.putfield 22, 3) := by decide +kernel
theorem dX8_refuse_16 : decode cX8_refuse 16 = .ok (.return_, 1) := by decide +kernel
theorem dX8_advance_0 : decode cX8_advance 0 = .ok (.aload_n 0, 1) := by decide +kernel
theorem dX8_advance_1 : decode cX8_advance 1 = .ok (.getfield 19, 3) := by decide +kernel
theorem dX8_advance_4 : decode cX8_advance 4 = .ok (.aload_n 0, 1) := by decide +kernel
theorem dX8_advance_5 : decode cX8_advance 5 = .ok (.getfield 15, 3) := by decide +kernel
theorem dX8_advance_8 : decode cX8_advance 8 = .ok (.if_icmp .ge 28, 3) := by decide +kernel
theorem dX8_advance_11 : decode cX8_advance 11 = .ok (.aload_n 0, 1) := by decide +kernel
theorem dX8_advance_12 : decode cX8_advance 12 = .ok (.aload_n 0, 1) := by decide +kernel
theorem dX8_advance_13 : decode cX8_advance 13 = .ok (.getfield 19, 3) := by decide +kernel
theorem dX8_advance_16 : decode cX8_advance 16 = .ok (.invokevirtual 34, 3) := by decide +kernel
theorem dX8_advance_19 : decode cX8_advance 19 = .ok (.iconst 3, 1) := by decide +kernel
theorem dX8_advance_20 : decode cX8_advance 20 = .ok (.if_icmp .ne 16, 3) := by decide +kernel
theorem dX8_advance_23 : decode cX8_advance 23 = .ok (.aload_n 0, 1) := by decide +kernel
theorem dX8_advance_24 : decode cX8_advance 24 = .ok (.dup, 1) := by decide +kernel
theorem dX8_advance_25 : decode cX8_advance 25 = .ok (.getfield 19, 3) := by decide +kernel
theorem dX8_advance_28 : decode cX8_advance 28 = .ok (.iconst 1, 1) := by decide +kernel
theorem dX8_advance_29 : decode cX8_advance 29 = .ok (.iadd, 1) := by decide +kernel
theorem dX8_advance_30 : decode cX8_advance 30 = .ok (.putfield 19, 3) := by decide +kernel
theorem dX8_advance_33 : decode cX8_advance 33 = .ok (.goto (-33), 3) := by decide +kernel
theorem dX8_advance_36 : decode cX8_advance 36 = .ok (.aload_n 0, 1) := by decide +kernel
theorem dX8_advance_37 : decode cX8_advance 37 = .ok (.aload_n 0, 1) := by decide +kernel
theorem dX8_advance_38 : decode cX8_advance 38 = .ok (.getfield 19, 3) := by decide +kernel
theorem dX8_advance_41 : decode cX8_advance 41 = .ok (.putfield 31, 3) := by decide +kernel
theorem dX8_advance_44 : decode cX8_advance 44 = .ok (.aload_n 0, 1) := by decide +kernel
theorem dX8_advance_45 : decode cX8_advance 45 = .ok (.aload_n 0, 1) := by decide +kernel
theorem dX8_advance_46 : decode cX8_advance 46 = .ok (.aload_n 0, 1) := by decide +kernel
theorem dX8_advance_47 : decode cX8_advance 47 = .ok (.getfield 19, 3) := by decide +kernel
theorem dX8_advance_50 : decode cX8_advance 50 = .ok (.invokevirtual 34, 3) := by decide +kernel
theorem dX8_advance_53 : decode cX8_advance 53 = .ok (.putfield 28, 3) := by decide +kernel
theorem dX8_advance_56 : decode cX8_advance 56 = .ok (.aload_n 0, 1) := by decide +kernel
theorem dX8_advance_57 : decode cX8_advance 57 = .ok (.iconst 0, 1) := by decide +kernel
theorem dX8_advance_58 : decode cX8_advance 58 = .ok (.putfield 38, 3) := by decide +kernel
theorem dX8_advance_61 : decode cX8_advance 61 = .ok (.aload_n 0, 1) := by decide +kernel
theorem dX8_advance_62 : decode cX8_advance 62 = .ok (.getfield 28, 3) := by decide +kernel
theorem dX8_advance_65 : decode cX8_advance 65 = .ok (.iconst 1, 1) := by decide +kernel
theorem dX8_advance_66 : decode cX8_advance 66 = .ok (.if_icmp .ne 10, 3) := by decide +kernel
theorem dX8_advance_69 : decode cX8_advance 69 = .ok (.aload_n 0, 1) := by decide +kernel
theorem dX8_advance_70 : decode cX8_advance 70 = .ok (.invokevirtual 41, 3) := by decide +kernel
theorem dX8_advance_73 : decode cX8_advance 73 = .ok (.goto 35, 3) := by decide +kernel
theorem dX8_advance_76 : decode cX8_advance 76 = .ok (.aload_n 0, 1) := by decide +kernel
theorem dX8_advance_77 : decode cX8_advance 77 = .ok (.getfield 28, 3) := by decide +kernel
theorem dX8_advance_80 : decode cX8_advance 80 = .ok (.iconst 2, 1) := by decide +kernel
theorem dX8_advance_81 : decode cX8_advance 81 = .ok (.if_icmp .ne 10, 3) := by decide +kernel
theorem dX8_advance_84 : decode cX8_advance 84 = .ok (.aload_n 0, 1) := by decide +kernel
theorem dX8_advance_85 : decode cX8_advance 85 = .ok (.invokevirtual 44, 3) := by decide +kernel
theorem dX8_advance_88 : decode cX8_advance 88 = .ok (.goto 20, 3) := by decide +kernel
theorem dX8_advance_91 : decode cX8_advance 91 = .ok (.aload_n 0, 1) := by decide +kernel
theorem dX8_advance_92 : decode cX8_advance 92 = .ok (.getfield 28, 3) := by decide +kernel
theorem dX8_advance_95 : decode cX8_advance 95 = .ok (.ifCond .eq 13, 3) := by decide +kernel
theorem dX8_advance_98 : decode cX8_advance 98 = .ok (.aload_n 0, 1) := by decide +kernel
theorem dX8_advance_99 : decode cX8_advance 99 = .ok (.dup, 1) := by decide +kernel
theorem dX8_advance_100 : decode cX8_advance 100 = .ok (.getfield 19, 3) := by decide +kernel
theorem dX8_advance_103 : decode cX8_advance 103 = .ok (.iconst 1, 1) := by decide +kernel
theorem dX8_advance_104 : decode cX8_advance 104 = .ok (.iadd, 1) := by decide +kernel
theorem dX8_advance_105 : decode cX8_advance 105 = .ok (.putfield 19, 3) := by decide +kernel
theorem dX8_advance_108 : decode cX8_advance 108 = .ok (.return_, 1) := by decide +kernel
theorem dX8_passLetters_0 : decode cX8_passLetters 0 = .ok (.aload_n 0, 1) := by decide +kernel
theorem dX8_passLetters_1 : decode cX8_passLetters 1 = .ok (.getfield 19, 3) := by decide +kernel
theorem dX8_passLetters_4 : decode cX8_passLetters 4 = .ok (.aload_n 0, 1) := by decide +kernel
theorem dX8_passLetters_5 : decode cX8_passLetters 5 = .ok (.getfield 15, 3) := by decide +kernel
theorem dX8_passLetters_8 : decode cX8_passLetters 8 = .ok (.if_icmp .ge 28, 3) := by decide +kernel
theorem dX8_passLetters_11 : decode cX8_passLetters 11 = .ok (.aload_n 0, 1) := by decide +kernel
theorem dX8_passLetters_12 : decode cX8_passLetters 12 = .ok (.aload_n 0, 1) := by decide +kernel
theorem dX8_passLetters_13 : decode cX8_passLetters 13 = .ok (.getfield 19, 3) := by decide +kernel
theorem dX8_passLetters_16 : decode cX8_passLetters 16 = .ok (.invokevirtual 34, 3) := by decide +kernel
theorem dX8_passLetters_19 : decode cX8_passLetters 19 = .ok (.iconst 1, 1) := by decide +kernel
theorem dX8_passLetters_20 : decode cX8_passLetters 20 = .ok (.if_icmp .ne 16, 3) := by decide +kernel
theorem dX8_passLetters_23 : decode cX8_passLetters 23 = .ok (.aload_n 0, 1) := by decide +kernel
theorem dX8_passLetters_24 : decode cX8_passLetters 24 = .ok (.dup, 1) := by decide +kernel
theorem dX8_passLetters_25 : decode cX8_passLetters 25 = .ok (.getfield 19, 3) := by decide +kernel
theorem dX8_passLetters_28 : decode cX8_passLetters 28 = .ok (.iconst 1, 1) := by decide +kernel
theorem dX8_passLetters_29 : decode cX8_passLetters 29 = .ok (.iadd, 1) := by decide +kernel
theorem dX8_passLetters_30 : decode cX8_passLetters 30 = .ok (.putfield 19, 3) := by decide +kernel
theorem dX8_passLetters_33 : decode cX8_passLetters 33 = .ok (.goto (-33), 3) := by decide +kernel
theorem dX8_passLetters_36 : decode cX8_passLetters 36 = .ok (.return_, 1) := by decide +kernel
theorem dX8_passDigits_0 : decode cX8_passDigits 0 = .ok (.aload_n 0, 1) := by decide +kernel
theorem dX8_passDigits_1 : decode cX8_passDigits 1 = .ok (.getfield 19, 3) := by decide +kernel
theorem dX8_passDigits_4 : decode cX8_passDigits 4 = .ok (.aload_n 0, 1) := by decide +kernel
theorem dX8_passDigits_5 : decode cX8_passDigits 5 = .ok (.getfield 15, 3) := by decide +kernel
theorem dX8_passDigits_8 : decode cX8_passDigits 8 = .ok (.if_icmp .ge 65, 3) := by decide +kernel
theorem dX8_passDigits_11 : decode cX8_passDigits 11 = .ok (.aload_n 0, 1) := by decide +kernel
theorem dX8_passDigits_12 : decode cX8_passDigits 12 = .ok (.aload_n 0, 1) := by decide +kernel
theorem dX8_passDigits_13 : decode cX8_passDigits 13 = .ok (.getfield 19, 3) := by decide +kernel
theorem dX8_passDigits_16 : decode cX8_passDigits 16 = .ok (.invokevirtual 34, 3) := by decide +kernel
theorem dX8_passDigits_19 : decode cX8_passDigits 19 = .ok (.iconst 2, 1) := by decide +kernel
theorem dX8_passDigits_20 : decode cX8_passDigits 20 = .ok (.if_icmp .ne 53, 3) := by decide +kernel
theorem dX8_passDigits_23 : decode cX8_passDigits 23 = .ok (.aload_n 0, 1) := by decide +kernel
theorem dX8_passDigits_24 : decode cX8_passDigits 24 = .ok (.getfield 38, 3) := by decide +kernel
theorem dX8_passDigits_27 : decode cX8_passDigits 27 = .ok (.bipush 10, 2) := by decide +kernel
theorem dX8_passDigits_29 : decode cX8_passDigits 29 = .ok (.imul, 1) := by decide +kernel
theorem dX8_passDigits_30 : decode cX8_passDigits 30 = .ok (.aload_n 0, 1) := by decide +kernel
theorem dX8_passDigits_31 : decode cX8_passDigits 31 = .ok (.getfield 9, 3) := by decide +kernel
theorem dX8_passDigits_34 : decode cX8_passDigits 34 = .ok (.aload_n 0, 1) := by decide +kernel
theorem dX8_passDigits_35 : decode cX8_passDigits 35 = .ok (.getfield 19, 3) := by decide +kernel
theorem dX8_passDigits_38 : decode cX8_passDigits 38 = .ok (.iaload, 1) := by decide +kernel
theorem dX8_passDigits_39 : decode cX8_passDigits 39 = .ok (.iadd, 1) := by decide +kernel
theorem dX8_passDigits_40 : decode cX8_passDigits 40 = .ok (.bipush 48, 2) := by decide +kernel
theorem dX8_passDigits_42 : decode cX8_passDigits 42 = .ok (.isub, 1) := by decide +kernel
theorem dX8_passDigits_43 : decode cX8_passDigits 43 = .ok (.istore_n 1, 1) := by decide +kernel
theorem dX8_passDigits_44 : decode cX8_passDigits 44 = .ok (.aload_n 0, 1) := by decide +kernel
theorem dX8_passDigits_45 : decode cX8_passDigits 45 = .ok (.iload_n 1, 1) := by decide +kernel
theorem dX8_passDigits_46 : decode cX8_passDigits 46 = .ok (.ldc 47, 2) := by decide +kernel
theorem dX8_passDigits_48 : decode cX8_passDigits 48 = .ok (.if_icmp .ge 7, 3) := by decide +kernel
theorem dX8_passDigits_51 : decode cX8_passDigits 51 = .ok (.iload_n 1, 1) := by decide +kernel
theorem dX8_passDigits_52 : decode cX8_passDigits 52 = .ok (.goto 5, 3) := by decide +kernel
theorem dX8_passDigits_55 : decode cX8_passDigits 55 = .ok (.ldc 47, 2) := by decide +kernel
theorem dX8_passDigits_57 : decode cX8_passDigits 57 = .ok (.putfield 38, 3) := by decide +kernel
theorem dX8_passDigits_60 : decode cX8_passDigits 60 = .ok (.aload_n 0, 1) := by decide +kernel
theorem dX8_passDigits_61 : decode cX8_passDigits 61 = .ok (.dup, 1) := by decide +kernel
theorem dX8_passDigits_62 : decode cX8_passDigits 62 = .ok (.getfield 19, 3) := by decide +kernel
theorem dX8_passDigits_65 : decode cX8_passDigits 65 = .ok (.iconst 1, 1) := by decide +kernel
theorem dX8_passDigits_66 : decode cX8_passDigits 66 = .ok (.iadd, 1) := by decide +kernel
theorem dX8_passDigits_67 : decode cX8_passDigits 67 = .ok (.putfield 19, 3) := by decide +kernel
theorem dX8_passDigits_70 : decode cX8_passDigits 70 = .ok (.goto (-70), 3) := by decide +kernel
theorem dX8_passDigits_73 : decode cX8_passDigits 73 = .ok (.return_, 1) := by decide +kernel
theorem dX8_kindAt_0 : decode cX8_kindAt 0 = .ok (.iload_n 1, 1) := by decide +kernel
theorem dX8_kindAt_1 : decode cX8_kindAt 1 = .ok (.ifCond .lt 18, 3) := by decide +kernel
theorem dX8_kindAt_4 : decode cX8_kindAt 4 = .ok (.iload_n 1, 1) := by decide +kernel
theorem dX8_kindAt_5 : decode cX8_kindAt 5 = .ok (.aload_n 0, 1) := by decide +kernel
theorem dX8_kindAt_6 : decode cX8_kindAt 6 = .ok (.getfield 15, 3) := by decide +kernel
theorem dX8_kindAt_9 : decode cX8_kindAt 9 = .ok (.if_icmp .ge 10, 3) := by decide +kernel
theorem dX8_kindAt_12 : decode cX8_kindAt 12 = .ok (.iload_n 1, 1) := by decide +kernel
theorem dX8_kindAt_13 : decode cX8_kindAt 13 = .ok (.sipush 500, 3) := by decide +kernel
theorem dX8_kindAt_16 : decode cX8_kindAt 16 = .ok (.if_icmp .lt 5, 3) := by decide +kernel
theorem dX8_kindAt_19 : decode cX8_kindAt 19 = .ok (.iconst 0, 1) := by decide +kernel
theorem dX8_kindAt_20 : decode cX8_kindAt 20 = .ok (.ireturn, 1) := by decide +kernel
theorem dX8_kindAt_21 : decode cX8_kindAt 21 = .ok (.aload_n 0, 1) := by decide +kernel
theorem dX8_kindAt_22 : decode cX8_kindAt 22 = .ok (.getfield 9, 3) := by decide +kernel
theorem dX8_kindAt_25 : decode cX8_kindAt 25 = .ok (.iload_n 1, 1) := by decide +kernel
theorem dX8_kindAt_26 : decode cX8_kindAt 26 = .ok (.iaload, 1) := by decide +kernel
theorem dX8_kindAt_27 : decode cX8_kindAt 27 = .ok (.istore_n 2, 1) := by decide +kernel
theorem dX8_kindAt_28 : decode cX8_kindAt 28 = .ok (.iload_n 2, 1) := by decide +kernel
theorem dX8_kindAt_29 : decode cX8_kindAt 29 = .ok (.bipush 97, 2) := by decide +kernel
theorem dX8_kindAt_31 : decode cX8_kindAt 31 = .ok (.if_icmp .lt 11, 3) := by decide +kernel
theorem dX8_kindAt_34 : decode cX8_kindAt 34 = .ok (.iload_n 2, 1) := by decide +kernel
theorem dX8_kindAt_35 : decode cX8_kindAt 35 = .ok (.bipush 122, 2) := by decide +kernel
theorem dX8_kindAt_37 : decode cX8_kindAt 37 = .ok (.if_icmp .gt 5, 3) := by decide +kernel
theorem dX8_kindAt_40 : decode cX8_kindAt 40 = .ok (.iconst 1, 1) := by decide +kernel
theorem dX8_kindAt_41 : decode cX8_kindAt 41 = .ok (.ireturn, 1) := by decide +kernel
theorem dX8_kindAt_42 : decode cX8_kindAt 42 = .ok (.iload_n 2, 1) := by decide +kernel
theorem dX8_kindAt_43 : decode cX8_kindAt 43 = .ok (.bipush 48, 2) := by decide +kernel
theorem dX8_kindAt_45 : decode cX8_kindAt 45 = .ok (.if_icmp .lt 11, 3) := by decide +kernel
theorem dX8_kindAt_48 : decode cX8_kindAt 48 = .ok (.iload_n 2, 1) := by decide +kernel
theorem dX8_kindAt_49 : decode cX8_kindAt 49 = .ok (.bipush 57, 2) := by decide +kernel
theorem dX8_kindAt_51 : decode cX8_kindAt 51 = .ok (.if_icmp .gt 5, 3) := by decide +kernel
theorem dX8_kindAt_54 : decode cX8_kindAt 54 = .ok (.iconst 2, 1) := by decide +kernel
theorem dX8_kindAt_55 : decode cX8_kindAt 55 = .ok (.ireturn, 1) := by decide +kernel
theorem dX8_kindAt_56 : decode cX8_kindAt 56 = .ok (.iload_n 2, 1) := by decide +kernel
theorem dX8_kindAt_57 : decode cX8_kindAt 57 = .ok (.lookupswitch 95 #[(10, 91), (32, 91), (40, 93), (41, 93), (42, 93), (43, 93), (45, 93), (59, 93), (60, 93), (61, 93)], 91) := by decide +kernel
theorem dX8_kindAt_148 : decode cX8_kindAt 148 = .ok (.iconst 3, 1) := by decide +kernel
theorem dX8_kindAt_149 : decode cX8_kindAt 149 = .ok (.ireturn, 1) := by decide +kernel
theorem dX8_kindAt_150 : decode cX8_kindAt 150 = .ok (.iload_n 2, 1) := by decide +kernel
theorem dX8_kindAt_151 : decode cX8_kindAt 151 = .ok (.ireturn, 1) := by decide +kernel
theorem dX8_kindAt_152 : decode cX8_kindAt 152 = .ok (.iconst 4, 1) := by decide +kernel
theorem dX8_kindAt_153 : decode cX8_kindAt 153 = .ok (.ireturn, 1) := by decide +kernel
theorem dX8_wordIs_0 : decode cX8_wordIs 0 = .ok (.aload_n 0, 1) := by decide +kernel
theorem dX8_wordIs_1 : decode cX8_wordIs 1 = .ok (.getfield 28, 3) := by decide +kernel
theorem dX8_wordIs_4 : decode cX8_wordIs 4 = .ok (.iconst 1, 1) := by decide +kernel
theorem dX8_wordIs_5 : decode cX8_wordIs 5 = .ok (.if_icmp .ne 36, 3) := by decide +kernel
theorem dX8_wordIs_8 : decode cX8_wordIs 8 = .ok (.aload_n 0, 1) := by decide +kernel
theorem dX8_wordIs_9 : decode cX8_wordIs 9 = .ok (.getfield 19, 3) := by decide +kernel
theorem dX8_wordIs_12 : decode cX8_wordIs 12 = .ok (.aload_n 0, 1) := by decide +kernel
theorem dX8_wordIs_13 : decode cX8_wordIs 13 = .ok (.getfield 31, 3) := by decide +kernel
theorem dX8_wordIs_16 : decode cX8_wordIs 16 = .ok (.isub, 1) := by decide +kernel
theorem dX8_wordIs_17 : decode cX8_wordIs 17 = .ok (.aload_n 1, 1) := by decide +kernel
theorem dX8_wordIs_18 : decode cX8_wordIs 18 = .ok (.invokevirtual 48, 3) := by decide +kernel
theorem dX8_wordIs_21 : decode cX8_wordIs 21 = .ok (.if_icmp .ne 20, 3) := by decide +kernel
theorem dX8_wordIs_24 : decode cX8_wordIs 24 = .ok (.aload_n 0, 1) := by decide +kernel
theorem dX8_wordIs_25 : decode cX8_wordIs 25 = .ok (.getfield 31, 3) := by decide +kernel
theorem dX8_wordIs_28 : decode cX8_wordIs 28 = .ok (.ifCond .lt 13, 3) := by decide +kernel
theorem dX8_wordIs_31 : decode cX8_wordIs 31 = .ok (.aload_n 0, 1) := by decide +kernel
theorem dX8_wordIs_32 : decode cX8_wordIs 32 = .ok (.getfield 19, 3) := by decide +kernel
theorem dX8_wordIs_35 : decode cX8_wordIs 35 = .ok (.sipush 500, 3) := by decide +kernel
theorem dX8_wordIs_38 : decode cX8_wordIs 38 = .ok (.if_icmp .le 5, 3) := by decide +kernel
theorem dX8_wordIs_41 : decode cX8_wordIs 41 = .ok (.iconst 0, 1) := by decide +kernel
theorem dX8_wordIs_42 : decode cX8_wordIs 42 = .ok (.ireturn, 1) := by decide +kernel
theorem dX8_wordIs_43 : decode cX8_wordIs 43 = .ok (.aload_n 0, 1) := by decide +kernel
theorem dX8_wordIs_44 : decode cX8_wordIs 44 = .ok (.getfield 31, 3) := by decide +kernel
theorem dX8_wordIs_47 : decode cX8_wordIs 47 = .ok (.istore_n 2, 1) := by decide +kernel
theorem dX8_wordIs_48 : decode cX8_wordIs 48 = .ok (.iload_n 2, 1) := by decide +kernel
theorem dX8_wordIs_49 : decode cX8_wordIs 49 = .ok (.aload_n 0, 1) := by decide +kernel
theorem dX8_wordIs_50 : decode cX8_wordIs 50 = .ok (.getfield 19, 3) := by decide +kernel
theorem dX8_wordIs_53 : decode cX8_wordIs 53 = .ok (.if_icmp .ge 30, 3) := by decide +kernel
theorem dX8_wordIs_56 : decode cX8_wordIs 56 = .ok (.aload_n 0, 1) := by decide +kernel
theorem dX8_wordIs_57 : decode cX8_wordIs 57 = .ok (.getfield 9, 3) := by decide +kernel
theorem dX8_wordIs_60 : decode cX8_wordIs 60 = .ok (.iload_n 2, 1) := by decide +kernel
theorem dX8_wordIs_61 : decode cX8_wordIs 61 = .ok (.iaload, 1) := by decide +kernel
theorem dX8_wordIs_62 : decode cX8_wordIs 62 = .ok (.aload_n 1, 1) := by decide +kernel
theorem dX8_wordIs_63 : decode cX8_wordIs 63 = .ok (.iload_n 2, 1) := by decide +kernel
theorem dX8_wordIs_64 : decode cX8_wordIs 64 = .ok (.aload_n 0, 1) := by decide +kernel
theorem dX8_wordIs_65 : decode cX8_wordIs 65 = .ok (.getfield 31, 3) := by decide +kernel
theorem dX8_wordIs_68 : decode cX8_wordIs 68 = .ok (.isub, 1) := by decide +kernel
theorem dX8_wordIs_69 : decode cX8_wordIs 69 = .ok (.invokevirtual 53, 3) := by decide +kernel
theorem dX8_wordIs_72 : decode cX8_wordIs 72 = .ok (.if_icmp .eq 5, 3) := by decide +kernel
theorem dX8_wordIs_75 : decode cX8_wordIs 75 = .ok (.iconst 0, 1) := by decide +kernel
theorem dX8_wordIs_76 : decode cX8_wordIs 76 = .ok (.ireturn, 1) := by decide +kernel
theorem dX8_wordIs_77 : decode cX8_wordIs 77 = .ok (.iinc 2 1, 3) := by decide +kernel
theorem dX8_wordIs_80 : decode cX8_wordIs 80 = .ok (.goto (-32), 3) := by decide +kernel
theorem dX8_wordIs_83 : decode cX8_wordIs 83 = .ok (.iconst 1, 1) := by decide +kernel
theorem dX8_wordIs_84 : decode cX8_wordIs 84 = .ok (.ireturn, 1) := by decide +kernel
theorem dX8_wordIsLike_0 : decode cX8_wordIsLike 0 = .ok (.aload_n 0, 1) := by decide +kernel
theorem dX8_wordIsLike_1 : decode cX8_wordIsLike 1 = .ok (.getfield 28, 3) := by decide +kernel
theorem dX8_wordIsLike_4 : decode cX8_wordIsLike 4 = .ok (.iconst 1, 1) := by decide +kernel
theorem dX8_wordIsLike_5 : decode cX8_wordIsLike 5 = .ok (.if_icmp .ne 46, 3) := by decide +kernel
theorem dX8_wordIsLike_8 : decode cX8_wordIsLike 8 = .ok (.aload_n 0, 1) := by decide +kernel
theorem dX8_wordIsLike_9 : decode cX8_wordIsLike 9 = .ok (.getfield 19, 3) := by decide +kernel
theorem dX8_wordIsLike_12 : decode cX8_wordIsLike 12 = .ok (.aload_n 0, 1) := by decide +kernel
theorem dX8_wordIsLike_13 : decode cX8_wordIsLike 13 = .ok (.getfield 31, 3) := by decide +kernel
theorem dX8_wordIsLike_16 : decode cX8_wordIsLike 16 = .ok (.isub, 1) := by decide +kernel
theorem dX8_wordIsLike_17 : decode cX8_wordIsLike 17 = .ok (.iload_n 2, 1) := by decide +kernel
theorem dX8_wordIsLike_18 : decode cX8_wordIsLike 18 = .ok (.iload_n 1, 1) := by decide +kernel
theorem dX8_wordIsLike_19 : decode cX8_wordIsLike 19 = .ok (.isub, 1) := by decide +kernel
theorem dX8_wordIsLike_20 : decode cX8_wordIsLike 20 = .ok (.if_icmp .ne 31, 3) := by decide +kernel
theorem dX8_wordIsLike_23 : decode cX8_wordIsLike 23 = .ok (.aload_n 0, 1) := by decide +kernel
theorem dX8_wordIsLike_24 : decode cX8_wordIsLike 24 = .ok (.getfield 31, 3) := by decide +kernel
theorem dX8_wordIsLike_27 : decode cX8_wordIsLike 27 = .ok (.ifCond .lt 24, 3) := by decide +kernel
theorem dX8_wordIsLike_30 : decode cX8_wordIsLike 30 = .ok (.iload_n 1, 1) := by decide +kernel
theorem dX8_wordIsLike_31 : decode cX8_wordIsLike 31 = .ok (.ifCond .lt 20, 3) := by decide +kernel
theorem dX8_wordIsLike_34 : decode cX8_wordIsLike 34 = .ok (.aload_n 0, 1) := by decide +kernel
theorem dX8_wordIsLike_35 : decode cX8_wordIsLike 35 = .ok (.getfield 19, 3) := by decide +kernel
theorem dX8_wordIsLike_38 : decode cX8_wordIsLike 38 = .ok (.sipush 500, 3) := by decide +kernel
theorem dX8_wordIsLike_41 : decode cX8_wordIsLike 41 = .ok (.if_icmp .gt 10, 3) := by decide +kernel
theorem dX8_wordIsLike_44 : decode cX8_wordIsLike 44 = .ok (.iload_n 2, 1) := by decide +kernel
theorem dX8_wordIsLike_45 : decode cX8_wordIsLike 45 = .ok (.sipush 500, 3) := by decide +kernel
theorem dX8_wordIsLike_48 : decode cX8_wordIsLike 48 = .ok (.if_icmp .le 5, 3) := by decide +kernel
theorem dX8_wordIsLike_51 : decode cX8_wordIsLike 51 = .ok (.iconst 0, 1) := by decide +kernel
theorem dX8_wordIsLike_52 : decode cX8_wordIsLike 52 = .ok (.ireturn, 1) := by decide +kernel
theorem dX8_wordIsLike_53 : decode cX8_wordIsLike 53 = .ok (.aload_n 0, 1) := by decide +kernel
theorem dX8_wordIsLike_54 : decode cX8_wordIsLike 54 = .ok (.getfield 31, 3) := by decide +kernel
theorem dX8_wordIsLike_57 : decode cX8_wordIsLike 57 = .ok (.istore_n 3, 1) := by decide +kernel
theorem dX8_wordIsLike_58 : decode cX8_wordIsLike 58 = .ok (.iload_n 3, 1) := by decide +kernel
theorem dX8_wordIsLike_59 : decode cX8_wordIsLike 59 = .ok (.aload_n 0, 1) := by decide +kernel
theorem dX8_wordIsLike_60 : decode cX8_wordIsLike 60 = .ok (.getfield 19, 3) := by decide +kernel
theorem dX8_wordIsLike_63 : decode cX8_wordIsLike 63 = .ok (.if_icmp .ge 33, 3) := by decide +kernel
theorem dX8_wordIsLike_66 : decode cX8_wordIsLike 66 = .ok (.aload_n 0, 1) := by decide +kernel
theorem dX8_wordIsLike_67 : decode cX8_wordIsLike 67 = .ok (.getfield 9, 3) := by decide +kernel
theorem dX8_wordIsLike_70 : decode cX8_wordIsLike 70 = .ok (.iload_n 3, 1) := by decide +kernel
theorem dX8_wordIsLike_71 : decode cX8_wordIsLike 71 = .ok (.iaload, 1) := by decide +kernel
theorem dX8_wordIsLike_72 : decode cX8_wordIsLike 72 = .ok (.aload_n 0, 1) := by decide +kernel
theorem dX8_wordIsLike_73 : decode cX8_wordIsLike 73 = .ok (.getfield 9, 3) := by decide +kernel
theorem dX8_wordIsLike_76 : decode cX8_wordIsLike 76 = .ok (.iload_n 1, 1) := by decide +kernel
theorem dX8_wordIsLike_77 : decode cX8_wordIsLike 77 = .ok (.iload_n 3, 1) := by decide +kernel
theorem dX8_wordIsLike_78 : decode cX8_wordIsLike 78 = .ok (.iadd, 1) := by decide +kernel
theorem dX8_wordIsLike_79 : decode cX8_wordIsLike 79 = .ok (.aload_n 0, 1) := by decide +kernel
theorem dX8_wordIsLike_80 : decode cX8_wordIsLike 80 = .ok (.getfield 31, 3) := by decide +kernel
theorem dX8_wordIsLike_83 : decode cX8_wordIsLike 83 = .ok (.isub, 1) := by decide +kernel
theorem dX8_wordIsLike_84 : decode cX8_wordIsLike 84 = .ok (.iaload, 1) := by decide +kernel
theorem dX8_wordIsLike_85 : decode cX8_wordIsLike 85 = .ok (.if_icmp .eq 5, 3) := by decide +kernel
theorem dX8_wordIsLike_88 : decode cX8_wordIsLike 88 = .ok (.iconst 0, 1) := by decide +kernel
theorem dX8_wordIsLike_89 : decode cX8_wordIsLike 89 = .ok (.ireturn, 1) := by decide +kernel
theorem dX8_wordIsLike_90 : decode cX8_wordIsLike 90 = .ok (.iinc 3 1, 3) := by decide +kernel
theorem dX8_wordIsLike_93 : decode cX8_wordIsLike 93 = .ok (.goto (-35), 3) := by decide +kernel
theorem dX8_wordIsLike_96 : decode cX8_wordIsLike 96 = .ok (.iconst 1, 1) := by decide +kernel
theorem dX8_wordIsLike_97 : decode cX8_wordIsLike 97 = .ok (.ireturn, 1) := by decide +kernel
theorem dX8_takeNumber_0 : decode cX8_takeNumber 0 = .ok (.aload_n 0, 1) := by decide +kernel
theorem dX8_takeNumber_1 : decode cX8_takeNumber 1 = .ok (.getfield 22, 3) := by decide +kernel
theorem dX8_takeNumber_4 : decode cX8_takeNumber 4 = .ok (.iconst (-1), 1) := by decide +kernel
theorem dX8_takeNumber_5 : decode cX8_takeNumber 5 = .ok (.if_icmp .ne 27, 3) := by decide +kernel
theorem dX8_takeNumber_8 : decode cX8_takeNumber 8 = .ok (.aload_n 0, 1) := by decide +kernel
theorem dX8_takeNumber_9 : decode cX8_takeNumber 9 = .ok (.getfield 28, 3) := by decide +kernel
theorem dX8_takeNumber_12 : decode cX8_takeNumber 12 = .ok (.iconst 2, 1) := by decide +kernel
theorem dX8_takeNumber_13 : decode cX8_takeNumber 13 = .ok (.if_icmp .ne 19, 3) := by decide +kernel
theorem dX8_takeNumber_16 : decode cX8_takeNumber 16 = .ok (.aload_n 0, 1) := by decide +kernel
theorem dX8_takeNumber_17 : decode cX8_takeNumber 17 = .ok (.getfield 38, 3) := by decide +kernel
theorem dX8_takeNumber_20 : decode cX8_takeNumber 20 = .ok (.iload_n 1, 1) := by decide +kernel
theorem dX8_takeNumber_21 : decode cX8_takeNumber 21 = .ok (.if_icmp .lt 11, 3) := by decide +kernel
theorem dX8_takeNumber_24 : decode cX8_takeNumber 24 = .ok (.aload_n 0, 1) := by decide +kernel
theorem dX8_takeNumber_25 : decode cX8_takeNumber 25 = .ok (.getfield 38, 3) := by decide +kernel
theorem dX8_takeNumber_28 : decode cX8_takeNumber 28 = .ok (.iload_n 2, 1) := by decide +kernel
theorem dX8_takeNumber_29 : decode cX8_takeNumber 29 = .ok (.if_icmp .le 9, 3) := by decide +kernel
theorem dX8_takeNumber_32 : decode cX8_takeNumber 32 = .ok (.aload_n 0, 1) := by decide +kernel
theorem dX8_takeNumber_33 : decode cX8_takeNumber 33 = .ok (.invokevirtual 57, 3) := by decide +kernel
theorem dX8_takeNumber_36 : decode cX8_takeNumber 36 = .ok (.iconst (-1), 1) := by decide +kernel
theorem dX8_takeNumber_37 : decode cX8_takeNumber 37 = .ok (.ireturn, 1) := by decide +kernel
theorem dX8_takeNumber_38 : decode cX8_takeNumber 38 = .ok (.aload_n 0, 1) := by decide +kernel
theorem dX8_takeNumber_39 : decode cX8_takeNumber 39 = .ok (.getfield 38, 3) := by decide +kernel
theorem dX8_takeNumber_42 : decode cX8_takeNumber 42 = .ok (.istore_n 3, 1) := by decide +kernel
theorem dX8_takeNumber_43 : decode cX8_takeNumber 43 = .ok (.aload_n 0, 1) := by decide +kernel
theorem dX8_takeNumber_44 : decode cX8_takeNumber 44 = .ok (.invokevirtual 25, 3) := by decide +kernel
theorem dX8_takeNumber_47 : decode cX8_takeNumber 47 = .ok (.iload_n 3, 1) := by decide +kernel
theorem dX8_takeNumber_48 : decode cX8_takeNumber 48 = .ok (.ireturn, 1) := by decide +kernel
theorem dX8_takeSign_0 : decode cX8_takeSign 0 = .ok (.aload_n 0, 1) := by decide +kernel
theorem dX8_takeSign_1 : decode cX8_takeSign 1 = .ok (.getfield 22, 3) := by decide +kernel
theorem dX8_takeSign_4 : decode cX8_takeSign 4 = .ok (.iconst (-1), 1) := by decide +kernel
theorem dX8_takeSign_5 : decode cX8_takeSign 5 = .ok (.if_icmp .ne 11, 3) := by decide +kernel
theorem dX8_takeSign_8 : decode cX8_takeSign 8 = .ok (.aload_n 0, 1) := by decide +kernel
theorem dX8_takeSign_9 : decode cX8_takeSign 9 = .ok (.getfield 28, 3) := by decide +kernel
theorem dX8_takeSign_12 : decode cX8_takeSign 12 = .ok (.iload_n 1, 1) := by decide +kernel
theorem dX8_takeSign_13 : decode cX8_takeSign 13 = .ok (.if_icmp .eq 9, 3) := by decide +kernel
theorem dX8_takeSign_16 : decode cX8_takeSign 16 = .ok (.aload_n 0, 1) := by decide +kernel
theorem dX8_takeSign_17 : decode cX8_takeSign 17 = .ok (.invokevirtual 57, 3) := by decide +kernel
theorem dX8_takeSign_20 : decode cX8_takeSign 20 = .ok (.iconst 0, 1) := by decide +kernel
theorem dX8_takeSign_21 : decode cX8_takeSign 21 = .ok (.ireturn, 1) := by decide +kernel
theorem dX8_takeSign_22 : decode cX8_takeSign 22 = .ok (.aload_n 0, 1) := by decide +kernel
theorem dX8_takeSign_23 : decode cX8_takeSign 23 = .ok (.invokevirtual 25, 3) := by decide +kernel
theorem dX8_takeSign_26 : decode cX8_takeSign 26 = .ok (.iconst 1, 1) := by decide +kernel
theorem dX8_takeSign_27 : decode cX8_takeSign 27 = .ok (.ireturn, 1) := by decide +kernel
theorem dX9_init_0 : decode cX9_init 0 = .ok (.aload_n 0, 1) := by decide +kernel
theorem dX9_init_1 : decode cX9_init 1 = .ok (.invokespecial 3, 3) := by decide +kernel
theorem dX9_init_4 : decode cX9_init 4 = .ok (.aload_n 0, 1) := by decide +kernel
theorem dX9_init_5 : decode cX9_init 5 = .ok (.bipush 9, 2) := by decide +kernel
theorem dX9_init_7 : decode cX9_init 7 = .ok (.newarray .int, 2) := by decide +kernel
theorem dX9_init_9 : decode cX9_init 9 = .ok (.putfield 9, 3) := by decide +kernel
theorem dX9_init_12 : decode cX9_init 12 = .ok (.aload_n 0, 1) := by decide +kernel
theorem dX9_init_13 : decode cX9_init 13 = .ok (.bipush 30, 2) := by decide +kernel
theorem dX9_init_15 : decode cX9_init 15 = .ok (.newarray .int, 2) := by decide +kernel
theorem dX9_init_17 : decode cX9_init 17 = .ok (.putfield 15, 3) := by decide +kernel
theorem dX9_init_20 : decode cX9_init 20 = .ok (.aload_n 0, 1) := by decide +kernel
theorem dX9_init_21 : decode cX9_init 21 = .ok (.iconst 5, 1) := by decide +kernel
theorem dX9_init_22 : decode cX9_init 22 = .ok (.newarray .int, 2) := by decide +kernel
theorem dX9_init_24 : decode cX9_init 24 = .ok (.putfield 18, 3) := by decide +kernel
theorem dX9_init_27 : decode cX9_init 27 = .ok (.aload_n 0, 1) := by decide +kernel
theorem dX9_init_28 : decode cX9_init 28 = .ok (.iconst 5, 1) := by decide +kernel
theorem dX9_init_29 : decode cX9_init 29 = .ok (.newarray .int, 2) := by decide +kernel
theorem dX9_init_31 : decode cX9_init 31 = .ok (.putfield 21, 3) := by decide +kernel
theorem dX9_init_34 : decode cX9_init 34 = .ok (.aload_n 0, 1) := by decide +kernel
theorem dX9_init_35 : decode cX9_init 35 = .ok (.iconst (-1), 1) := by decide +kernel
theorem dX9_init_36 : decode cX9_init 36 = .ok (.putfield 24, 3) := by decide +kernel
theorem dX9_init_39 : decode cX9_init 39 = .ok (.aload_n 0, 1) := by decide +kernel
theorem dX9_init_40 : decode cX9_init 40 = .ok (.iconst (-1), 1) := by decide +kernel
theorem dX9_init_41 : decode cX9_init 41 = .ok (.putfield 28, 3) := by decide +kernel
theorem dX9_init_44 : decode cX9_init 44 = .ok (.aload_n 0, 1) := by decide +kernel
theorem dX9_init_45 : decode cX9_init 45 = .ok (.iconst (-1), 1) := by decide +kernel
theorem dX9_init_46 : decode cX9_init 46 = .ok (.putfield 31, 3) := by decide +kernel
theorem dX9_init_49 : decode cX9_init 49 = .ok (.return_, 1) := by decide +kernel
theorem dX9_read_0 : decode cX9_read 0 = .ok (.aload_n 0, 1) := by decide +kernel
theorem dX9_read_1 : decode cX9_read 1 = .ok (.iconst 0, 1) := by decide +kernel
theorem dX9_read_2 : decode cX9_read 2 = .ok (.putfield 34, 3) := by decide +kernel
theorem dX9_read_5 : decode cX9_read 5 = .ok (.aload_n 0, 1) := by decide +kernel
theorem dX9_read_6 : decode cX9_read 6 = .ok (.iconst 0, 1) := by decide +kernel
theorem dX9_read_7 : decode cX9_read 7 = .ok (.putfield 37, 3) := by decide +kernel
theorem dX9_read_10 : decode cX9_read 10 = .ok (.aload_n 0, 1) := by decide +kernel
theorem dX9_read_11 : decode cX9_read 11 = .ok (.iconst (-1), 1) := by decide +kernel
theorem dX9_read_12 : decode cX9_read 12 = .ok (.putfield 24, 3) := by decide +kernel
theorem dX9_read_15 : decode cX9_read 15 = .ok (.aload_n 0, 1) := by decide +kernel
theorem dX9_read_16 : decode cX9_read 16 = .ok (.iconst (-1), 1) := by decide +kernel
theorem dX9_read_17 : decode cX9_read 17 = .ok (.putfield 28, 3) := by decide +kernel
theorem dX9_read_20 : decode cX9_read 20 = .ok (.aload_n 0, 1) := by decide +kernel
theorem dX9_read_21 : decode cX9_read 21 = .ok (.iconst (-1), 1) := by decide +kernel
theorem dX9_read_22 : decode cX9_read 22 = .ok (.putfield 31, 3) := by decide +kernel
theorem dX9_read_25 : decode cX9_read 25 = .ok (.aload_n 1, 1) := by decide +kernel
theorem dX9_read_26 : decode cX9_read 26 = .ok (.invokevirtual 40, 3) := by decide +kernel
theorem dX9_read_29 : decode cX9_read 29 = .ok (.iconst 0, 1) := by decide +kernel
theorem dX9_read_30 : decode cX9_read 30 = .ok (.istore_n 2, 1) := by decide +kernel
theorem dX9_read_31 : decode cX9_read 31 = .ok (.iload_n 2, 1) := by decide +kernel
theorem dX9_read_32 : decode cX9_read 32 = .ok (.sipush 500, 3) := by decide +kernel
theorem dX9_read_35 : decode cX9_read 35 = .ok (.if_icmp .ge 21, 3) := by decide +kernel
theorem dX9_read_38 : decode cX9_read 38 = .ok (.aload_n 1, 1) := by decide +kernel
theorem dX9_read_39 : decode cX9_read 39 = .ok (.invokevirtual 45, 3) := by decide +kernel
theorem dX9_read_42 : decode cX9_read 42 = .ok (.ifCond .eq 14, 3) := by decide +kernel
theorem dX9_read_45 : decode cX9_read 45 = .ok (.aload_n 0, 1) := by decide +kernel
theorem dX9_read_46 : decode cX9_read 46 = .ok (.aload_n 1, 1) := by decide +kernel
theorem dX9_read_47 : decode cX9_read 47 = .ok (.invokevirtual 49, 3) := by decide +kernel
theorem dX9_read_50 : decode cX9_read 50 = .ok (.iinc 2 1, 3) := by decide +kernel
theorem dX9_read_53 : decode cX9_read 53 = .ok (.goto (-22), 3) := by decide +kernel
theorem dX9_read_56 : decode cX9_read 56 = .ok (.aload_n 0, 1) := by decide +kernel
theorem dX9_read_57 : decode cX9_read 57 = .ok (.getfield 34, 3) := by decide +kernel
theorem dX9_read_60 : decode cX9_read 60 = .ok (.ifCond .eq 10, 3) := by decide +kernel
theorem dX9_read_63 : decode cX9_read 63 = .ok (.aload_n 0, 1) := by decide +kernel
theorem dX9_read_64 : decode cX9_read 64 = .ok (.getfield 37, 3) := by decide +kernel
theorem dX9_read_67 : decode cX9_read 67 = .ok (.ifCond .ne 7, 3) := by decide +kernel
theorem dX9_read_70 : decode cX9_read 70 = .ok (.aload_n 1, 1) := by decide +kernel
theorem dX9_read_71 : decode cX9_read 71 = .ok (.invokevirtual 53, 3) := by decide +kernel
theorem dX9_read_74 : decode cX9_read 74 = .ok (.aload_n 1, 1) := by decide +kernel
theorem dX9_read_75 : decode cX9_read 75 = .ok (.getfield 56, 3) := by decide +kernel
theorem dX9_read_78 : decode cX9_read 78 = .ok (.ireturn, 1) := by decide +kernel
theorem dX9_readPart_0 : decode cX9_readPart 0 = .ok (.aload_n 1, 1) := by decide +kernel
theorem dX9_readPart_1 : decode cX9_readPart 1 = .ok (.ldc 59, 2) := by decide +kernel
theorem dX9_readPart_3 : decode cX9_readPart 3 = .ok (.invokevirtual 61, 3) := by decide +kernel
theorem dX9_readPart_6 : decode cX9_readPart 6 = .ok (.ifCond .eq 19, 3) := by decide +kernel
theorem dX9_readPart_9 : decode cX9_readPart 9 = .ok (.aload_n 0, 1) := by decide +kernel
theorem dX9_readPart_10 : decode cX9_readPart 10 = .ok (.getfield 34, 3) := by decide +kernel
theorem dX9_readPart_13 : decode cX9_readPart 13 = .ok (.iconst 3, 1) := by decide +kernel
theorem dX9_readPart_14 : decode cX9_readPart 14 = .ok (.if_icmp .ge 11, 3) := by decide +kernel
theorem dX9_readPart_17 : decode cX9_readPart 17 = .ok (.aload_n 0, 1) := by decide +kernel
theorem dX9_readPart_18 : decode cX9_readPart 18 = .ok (.aload_n 1, 1) := by decide +kernel
theorem dX9_readPart_19 : decode cX9_readPart 19 = .ok (.invokevirtual 65, 3) := by decide +kernel
theorem dX9_readPart_22 : decode cX9_readPart 22 = .ok (.goto 127, 3) := by decide +kernel
theorem dX9_readPart_25 : decode cX9_readPart 25 = .ok (.aload_n 1, 1) := by decide +kernel
theorem dX9_readPart_26 : decode cX9_readPart 26 = .ok (.ldc 68, 2) := by decide +kernel
theorem dX9_readPart_28 : decode cX9_readPart 28 = .ok (.invokevirtual 61, 3) := by decide +kernel
theorem dX9_readPart_31 : decode cX9_readPart 31 = .ok (.ifCond .eq 19, 3) := by decide +kernel
theorem dX9_readPart_34 : decode cX9_readPart 34 = .ok (.aload_n 0, 1) := by decide +kernel
theorem dX9_readPart_35 : decode cX9_readPart 35 = .ok (.getfield 37, 3) := by decide +kernel
theorem dX9_readPart_38 : decode cX9_readPart 38 = .ok (.iconst 5, 1) := by decide +kernel
theorem dX9_readPart_39 : decode cX9_readPart 39 = .ok (.if_icmp .ge 11, 3) := by decide +kernel
theorem dX9_readPart_42 : decode cX9_readPart 42 = .ok (.aload_n 0, 1) := by decide +kernel
theorem dX9_readPart_43 : decode cX9_readPart 43 = .ok (.aload_n 1, 1) := by decide +kernel
theorem dX9_readPart_44 : decode cX9_readPart 44 = .ok (.invokevirtual 70, 3) := by decide +kernel
theorem dX9_readPart_47 : decode cX9_readPart 47 = .ok (.goto 102, 3) := by decide +kernel
theorem dX9_readPart_50 : decode cX9_readPart 50 = .ok (.aload_n 1, 1) := by decide +kernel
theorem dX9_readPart_51 : decode cX9_readPart 51 = .ok (.ldc 73, 2) := by decide +kernel
theorem dX9_readPart_53 : decode cX9_readPart 53 = .ok (.invokevirtual 61, 3) := by decide +kernel
theorem dX9_readPart_56 : decode cX9_readPart 56 = .ok (.ifCond .eq 27, 3) := by decide +kernel
theorem dX9_readPart_59 : decode cX9_readPart 59 = .ok (.aload_n 0, 1) := by decide +kernel
theorem dX9_readPart_60 : decode cX9_readPart 60 = .ok (.getfield 24, 3) := by decide +kernel
theorem dX9_readPart_63 : decode cX9_readPart 63 = .ok (.iconst (-1), 1) := by decide +kernel
theorem dX9_readPart_64 : decode cX9_readPart 64 = .ok (.if_icmp .ne 19, 3) := by decide +kernel
theorem dX9_readPart_67 : decode cX9_readPart 67 = .ok (.aload_n 0, 1) := by decide +kernel
theorem dX9_readPart_68 : decode cX9_readPart 68 = .ok (.aload_n 1, 1) := by decide +kernel
theorem dX9_readPart_69 : decode cX9_readPart 69 = .ok (.bipush 10, 2) := by decide +kernel
theorem dX9_readPart_71 : decode cX9_readPart 71 = .ok (.sipush 240, 3) := by decide +kernel
theorem dX9_readPart_74 : decode cX9_readPart 74 = .ok (.invokestatic 75, 3) := by decide +kernel
theorem dX9_readPart_77 : decode cX9_readPart 77 = .ok (.putfield 24, 3) := by decide +kernel
theorem dX9_readPart_80 : decode cX9_readPart 80 = .ok (.goto 69, 3) := by decide +kernel
theorem dX9_readPart_83 : decode cX9_readPart 83 = .ok (.aload_n 1, 1) := by decide +kernel
theorem dX9_readPart_84 : decode cX9_readPart 84 = .ok (.ldc 79, 2) := by decide +kernel
theorem dX9_readPart_86 : decode cX9_readPart 86 = .ok (.invokevirtual 61, 3) := by decide +kernel
theorem dX9_readPart_89 : decode cX9_readPart 89 = .ok (.ifCond .eq 25, 3) := by decide +kernel
theorem dX9_readPart_92 : decode cX9_readPart 92 = .ok (.aload_n 0, 1) := by decide +kernel
theorem dX9_readPart_93 : decode cX9_readPart 93 = .ok (.getfield 28, 3) := by decide +kernel
theorem dX9_readPart_96 : decode cX9_readPart 96 = .ok (.iconst (-1), 1) := by decide +kernel
theorem dX9_readPart_97 : decode cX9_readPart 97 = .ok (.if_icmp .ne 17, 3) := by decide +kernel
theorem dX9_readPart_100 : decode cX9_readPart 100 = .ok (.aload_n 0, 1) := by decide +kernel
theorem dX9_readPart_101 : decode cX9_readPart 101 = .ok (.aload_n 1, 1) := by decide +kernel
theorem dX9_readPart_102 : decode cX9_readPart 102 = .ok (.iconst 0, 1) := by decide +kernel
theorem dX9_readPart_103 : decode cX9_readPart 103 = .ok (.bipush 99, 2) := by decide +kernel
theorem dX9_readPart_105 : decode cX9_readPart 105 = .ok (.invokestatic 75, 3) := by decide +kernel
theorem dX9_readPart_108 : decode cX9_readPart 108 = .ok (.putfield 28, 3) := by decide +kernel
theorem dX9_readPart_111 : decode cX9_readPart 111 = .ok (.goto 38, 3) := by decide +kernel
theorem dX9_readPart_114 : decode cX9_readPart 114 = .ok (.aload_n 1, 1) := by decide +kernel
theorem dX9_readPart_115 : decode cX9_readPart 115 = .ok (.ldc 81, 2) := by decide +kernel
theorem dX9_readPart_117 : decode cX9_readPart 117 = .ok (.invokevirtual 61, 3) := by decide +kernel
theorem dX9_readPart_120 : decode cX9_readPart 120 = .ok (.ifCond .eq 25, 3) := by decide +kernel
theorem dX9_readPart_123 : decode cX9_readPart 123 = .ok (.aload_n 0, 1) := by decide +kernel
theorem dX9_readPart_124 : decode cX9_readPart 124 = .ok (.getfield 31, 3) := by decide +kernel
theorem dX9_readPart_127 : decode cX9_readPart 127 = .ok (.iconst (-1), 1) := by decide +kernel
theorem dX9_readPart_128 : decode cX9_readPart 128 = .ok (.if_icmp .ne 17, 3) := by decide +kernel
theorem dX9_readPart_131 : decode cX9_readPart 131 = .ok (.aload_n 0, 1) := by decide +kernel
theorem dX9_readPart_132 : decode cX9_readPart 132 = .ok (.aload_n 1, 1) := by decide +kernel
theorem dX9_readPart_133 : decode cX9_readPart 133 = .ok (.iconst 0, 1) := by decide +kernel
theorem dX9_readPart_134 : decode cX9_readPart 134 = .ok (.bipush 9, 2) := by decide +kernel
theorem dX9_readPart_136 : decode cX9_readPart 136 = .ok (.invokestatic 75, 3) := by decide +kernel
theorem dX9_readPart_139 : decode cX9_readPart 139 = .ok (.putfield 31, 3) := by decide +kernel
theorem dX9_readPart_142 : decode cX9_readPart 142 = .ok (.goto 7, 3) := by decide +kernel
theorem dX9_readPart_145 : decode cX9_readPart 145 = .ok (.aload_n 1, 1) := by decide +kernel
theorem dX9_readPart_146 : decode cX9_readPart 146 = .ok (.invokevirtual 53, 3) := by decide +kernel
theorem dX9_readPart_149 : decode cX9_readPart 149 = .ok (.return_, 1) := by decide +kernel
theorem dX9_readOnly_0 : decode cX9_readOnly 0 = .ok (.aload_n 0, 1) := by decide +kernel
theorem dX9_readOnly_1 : decode cX9_readOnly 1 = .ok (.invokevirtual 83, 3) := by decide +kernel
theorem dX9_readOnly_4 : decode cX9_readOnly 4 = .ok (.aload_n 0, 1) := by decide +kernel
theorem dX9_readOnly_5 : decode cX9_readOnly 5 = .ok (.iload_n 1, 1) := by decide +kernel
theorem dX9_readOnly_6 : decode cX9_readOnly 6 = .ok (.iload_n 2, 1) := by decide +kernel
theorem dX9_readOnly_7 : decode cX9_readOnly 7 = .ok (.invokevirtual 86, 3) := by decide +kernel
theorem dX9_readOnly_10 : decode cX9_readOnly 10 = .ok (.istore_n 3, 1) := by decide +kernel
theorem dX9_readOnly_11 : decode cX9_readOnly 11 = .ok (.aload_n 0, 1) := by decide +kernel
theorem dX9_readOnly_12 : decode cX9_readOnly 12 = .ok (.bipush 59, 2) := by decide +kernel
theorem dX9_readOnly_14 : decode cX9_readOnly 14 = .ok (.invokevirtual 90, 3) := by decide +kernel
theorem dX9_readOnly_17 : decode cX9_readOnly 17 = .ok (.pop, 1) := by decide +kernel
theorem dX9_readOnly_18 : decode cX9_readOnly 18 = .ok (.iload_n 3, 1) := by decide +kernel
theorem dX9_readOnly_19 : decode cX9_readOnly 19 = .ok (.ireturn, 1) := by decide +kernel
theorem dX9_readCounter_0 : decode cX9_readCounter 0 = .ok (.aload_n 1, 1) := by decide +kernel
theorem dX9_readCounter_1 : decode cX9_readCounter 1 = .ok (.invokevirtual 83, 3) := by decide +kernel
theorem dX9_readCounter_4 : decode cX9_readCounter 4 = .ok (.aload_n 0, 1) := by decide +kernel
theorem dX9_readCounter_5 : decode cX9_readCounter 5 = .ok (.iconst 0, 1) := by decide +kernel
theorem dX9_readCounter_6 : decode cX9_readCounter 6 = .ok (.aload_n 1, 1) := by decide +kernel
theorem dX9_readCounter_7 : decode cX9_readCounter 7 = .ok (.iconst 0, 1) := by decide +kernel
theorem dX9_readCounter_8 : decode cX9_readCounter 8 = .ok (.bipush 8, 2) := by decide +kernel
theorem dX9_readCounter_10 : decode cX9_readCounter 10 = .ok (.invokevirtual 86, 3) := by decide +kernel
theorem dX9_readCounter_13 : decode cX9_readCounter 13 = .ok (.invokevirtual 94, 3) := by decide +kernel
theorem dX9_readCounter_16 : decode cX9_readCounter 16 = .ok (.aload_n 0, 1) := by decide +kernel
theorem dX9_readCounter_17 : decode cX9_readCounter 17 = .ok (.iconst 1, 1) := by decide +kernel
theorem dX9_readCounter_18 : decode cX9_readCounter 18 = .ok (.aload_n 1, 1) := by decide +kernel
theorem dX9_readCounter_19 : decode cX9_readCounter 19 = .ok (.iconst 1, 1) := by decide +kernel
theorem dX9_readCounter_20 : decode cX9_readCounter 20 = .ok (.bipush 9, 2) := by decide +kernel
theorem dX9_readCounter_22 : decode cX9_readCounter 22 = .ok (.invokevirtual 86, 3) := by decide +kernel
theorem dX9_readCounter_25 : decode cX9_readCounter 25 = .ok (.invokevirtual 94, 3) := by decide +kernel
theorem dX9_readCounter_28 : decode cX9_readCounter 28 = .ok (.aload_n 0, 1) := by decide +kernel
theorem dX9_readCounter_29 : decode cX9_readCounter 29 = .ok (.iconst 2, 1) := by decide +kernel
theorem dX9_readCounter_30 : decode cX9_readCounter 30 = .ok (.aload_n 1, 1) := by decide +kernel
theorem dX9_readCounter_31 : decode cX9_readCounter 31 = .ok (.iconst 0, 1) := by decide +kernel
theorem dX9_readCounter_32 : decode cX9_readCounter 32 = .ok (.bipush 99, 2) := by decide +kernel
theorem dX9_readCounter_34 : decode cX9_readCounter 34 = .ok (.invokevirtual 86, 3) := by decide +kernel
theorem dX9_readCounter_37 : decode cX9_readCounter 37 = .ok (.invokevirtual 94, 3) := by decide +kernel
theorem dX9_readCounter_40 : decode cX9_readCounter 40 = .ok (.aload_n 1, 1) := by decide +kernel
theorem dX9_readCounter_41 : decode cX9_readCounter 41 = .ok (.bipush 59, 2) := by decide +kernel
theorem dX9_readCounter_43 : decode cX9_readCounter 43 = .ok (.invokevirtual 90, 3) := by decide +kernel
theorem dX9_readCounter_46 : decode cX9_readCounter 46 = .ok (.ifCond .eq 13, 3) := by decide +kernel
theorem dX9_readCounter_49 : decode cX9_readCounter 49 = .ok (.aload_n 0, 1) := by decide +kernel
theorem dX9_readCounter_50 : decode cX9_readCounter 50 = .ok (.dup, 1) := by decide +kernel
theorem dX9_readCounter_51 : decode cX9_readCounter 51 = .ok (.getfield 34, 3) := by decide +kernel
theorem dX9_readCounter_54 : decode cX9_readCounter 54 = .ok (.iconst 1, 1) := by decide +kernel
theorem dX9_readCounter_55 : decode cX9_readCounter 55 = .ok (.iadd, 1) := by decide +kernel
theorem dX9_readCounter_56 : decode cX9_readCounter 56 = .ok (.putfield 34, 3) := by decide +kernel
theorem dX9_readCounter_59 : decode cX9_readCounter 59 = .ok (.return_, 1) := by decide +kernel
theorem dX9_tellCounter_0 : decode cX9_tellCounter 0 = .ok (.aload_n 0, 1) := by decide +kernel
theorem dX9_tellCounter_1 : decode cX9_tellCounter 1 = .ok (.getfield 34, 3) := by decide +kernel
theorem dX9_tellCounter_4 : decode cX9_tellCounter 4 = .ok (.ifCond .lt 25, 3) := by decide +kernel
theorem dX9_tellCounter_7 : decode cX9_tellCounter 7 = .ok (.aload_n 0, 1) := by decide +kernel
theorem dX9_tellCounter_8 : decode cX9_tellCounter 8 = .ok (.getfield 34, 3) := by decide +kernel
theorem dX9_tellCounter_11 : decode cX9_tellCounter 11 = .ok (.iconst 3, 1) := by decide +kernel
theorem dX9_tellCounter_12 : decode cX9_tellCounter 12 = .ok (.if_icmp .ge 17, 3) := by decide +kernel
theorem dX9_tellCounter_15 : decode cX9_tellCounter 15 = .ok (.aload_n 0, 1) := by decide +kernel
theorem dX9_tellCounter_16 : decode cX9_tellCounter 16 = .ok (.getfield 9, 3) := by decide +kernel
theorem dX9_tellCounter_19 : decode cX9_tellCounter 19 = .ok (.aload_n 0, 1) := by decide +kernel
theorem dX9_tellCounter_20 : decode cX9_tellCounter 20 = .ok (.getfield 34, 3) := by decide +kernel
theorem dX9_tellCounter_23 : decode cX9_tellCounter 23 = .ok (.iconst 3, 1) := by decide +kernel
theorem dX9_tellCounter_24 : decode cX9_tellCounter 24 = .ok (.imul, 1) := by decide +kernel
theorem dX9_tellCounter_25 : decode cX9_tellCounter 25 = .ok (.iload_n 1, 1) := by decide +kernel
theorem dX9_tellCounter_26 : decode cX9_tellCounter 26 = .ok (.iadd, 1) := by decide +kernel
theorem dX9_tellCounter_27 : decode cX9_tellCounter 27 = .ok (.iload_n 2, 1) := by decide +kernel
theorem dX9_tellCounter_28 : decode cX9_tellCounter 28 = .ok (.iastore, 1) := by decide +kernel
theorem dX9_tellCounter_29 : decode cX9_tellCounter 29 = .ok (.return_, 1) := by decide +kernel
theorem dX9_readSort_0 : decode cX9_readSort 0 = .ok (.aload_n 1, 1) := by decide +kernel
theorem dX9_readSort_1 : decode cX9_readSort 1 = .ok (.invokevirtual 83, 3) := by decide +kernel
theorem dX9_readSort_4 : decode cX9_readSort 4 = .ok (.aload_n 0, 1) := by decide +kernel
theorem dX9_readSort_5 : decode cX9_readSort 5 = .ok (.aload_n 1, 1) := by decide +kernel
theorem dX9_readSort_6 : decode cX9_readSort 6 = .ok (.invokevirtual 98, 3) := by decide +kernel
theorem dX9_readSort_9 : decode cX9_readSort 9 = .ok (.aload_n 0, 1) := by decide +kernel
theorem dX9_readSort_10 : decode cX9_readSort 10 = .ok (.iconst 0, 1) := by decide +kernel
theorem dX9_readSort_11 : decode cX9_readSort 11 = .ok (.aload_n 1, 1) := by decide +kernel
theorem dX9_readSort_12 : decode cX9_readSort 12 = .ok (.iconst 0, 1) := by decide +kernel
theorem dX9_readSort_13 : decode cX9_readSort 13 = .ok (.bipush 16, 2) := by decide +kernel
theorem dX9_readSort_15 : decode cX9_readSort 15 = .ok (.invokevirtual 86, 3) := by decide +kernel
theorem dX9_readSort_18 : decode cX9_readSort 18 = .ok (.invokevirtual 101, 3) := by decide +kernel
theorem dX9_readSort_21 : decode cX9_readSort 21 = .ok (.aload_n 0, 1) := by decide +kernel
theorem dX9_readSort_22 : decode cX9_readSort 22 = .ok (.iconst 1, 1) := by decide +kernel
theorem dX9_readSort_23 : decode cX9_readSort 23 = .ok (.aload_n 1, 1) := by decide +kernel
theorem dX9_readSort_24 : decode cX9_readSort 24 = .ok (.iconst 0, 1) := by decide +kernel
theorem dX9_readSort_25 : decode cX9_readSort 25 = .ok (.bipush 99, 2) := by decide +kernel
theorem dX9_readSort_27 : decode cX9_readSort 27 = .ok (.invokevirtual 86, 3) := by decide +kernel
theorem dX9_readSort_30 : decode cX9_readSort 30 = .ok (.invokevirtual 101, 3) := by decide +kernel
theorem dX9_readSort_33 : decode cX9_readSort 33 = .ok (.aload_n 0, 1) := by decide +kernel
theorem dX9_readSort_34 : decode cX9_readSort 34 = .ok (.iconst 2, 1) := by decide +kernel
theorem dX9_readSort_35 : decode cX9_readSort 35 = .ok (.aload_n 1, 1) := by decide +kernel
theorem dX9_readSort_36 : decode cX9_readSort 36 = .ok (.iconst 1, 1) := by decide +kernel
theorem dX9_readSort_37 : decode cX9_readSort 37 = .ok (.sipush 240, 3) := by decide +kernel
theorem dX9_readSort_40 : decode cX9_readSort 40 = .ok (.invokevirtual 86, 3) := by decide +kernel
theorem dX9_readSort_43 : decode cX9_readSort 43 = .ok (.invokevirtual 101, 3) := by decide +kernel
theorem dX9_readSort_46 : decode cX9_readSort 46 = .ok (.aload_n 0, 1) := by decide +kernel
theorem dX9_readSort_47 : decode cX9_readSort 47 = .ok (.iconst 3, 1) := by decide +kernel
theorem dX9_readSort_48 : decode cX9_readSort 48 = .ok (.aload_n 1, 1) := by decide +kernel
theorem dX9_readSort_49 : decode cX9_readSort 49 = .ok (.iconst 0, 1) := by decide +kernel
theorem dX9_readSort_50 : decode cX9_readSort 50 = .ok (.bipush 9, 2) := by decide +kernel
theorem dX9_readSort_52 : decode cX9_readSort 52 = .ok (.invokevirtual 86, 3) := by decide +kernel
theorem dX9_readSort_55 : decode cX9_readSort 55 = .ok (.invokevirtual 101, 3) := by decide +kernel
theorem dX9_readSort_58 : decode cX9_readSort 58 = .ok (.aload_n 0, 1) := by decide +kernel
theorem dX9_readSort_59 : decode cX9_readSort 59 = .ok (.iconst 4, 1) := by decide +kernel
theorem dX9_readSort_60 : decode cX9_readSort 60 = .ok (.aload_n 1, 1) := by decide +kernel
theorem dX9_readSort_61 : decode cX9_readSort 61 = .ok (.iconst 0, 1) := by decide +kernel
theorem dX9_readSort_62 : decode cX9_readSort 62 = .ok (.bipush 9, 2) := by decide +kernel
theorem dX9_readSort_64 : decode cX9_readSort 64 = .ok (.invokevirtual 86, 3) := by decide +kernel
theorem dX9_readSort_67 : decode cX9_readSort 67 = .ok (.invokevirtual 101, 3) := by decide +kernel
theorem dX9_readSort_70 : decode cX9_readSort 70 = .ok (.aload_n 0, 1) := by decide +kernel
theorem dX9_readSort_71 : decode cX9_readSort 71 = .ok (.iconst 5, 1) := by decide +kernel
theorem dX9_readSort_72 : decode cX9_readSort 72 = .ok (.aload_n 1, 1) := by decide +kernel
theorem dX9_readSort_73 : decode cX9_readSort 73 = .ok (.iconst 0, 1) := by decide +kernel
theorem dX9_readSort_74 : decode cX9_readSort 74 = .ok (.iconst 2, 1) := by decide +kernel
theorem dX9_readSort_75 : decode cX9_readSort 75 = .ok (.invokevirtual 86, 3) := by decide +kernel
theorem dX9_readSort_78 : decode cX9_readSort 78 = .ok (.invokevirtual 101, 3) := by decide +kernel
theorem dX9_readSort_81 : decode cX9_readSort 81 = .ok (.aload_n 1, 1) := by decide +kernel
theorem dX9_readSort_82 : decode cX9_readSort 82 = .ok (.bipush 59, 2) := by decide +kernel
theorem dX9_readSort_84 : decode cX9_readSort 84 = .ok (.invokevirtual 90, 3) := by decide +kernel
theorem dX9_readSort_87 : decode cX9_readSort 87 = .ok (.ifCond .eq 13, 3) := by decide +kernel
theorem dX9_readSort_90 : decode cX9_readSort 90 = .ok (.aload_n 0, 1) := by decide +kernel
theorem dX9_readSort_91 : decode cX9_readSort 91 = .ok (.dup, 1) := by decide +kernel
theorem dX9_readSort_92 : decode cX9_readSort 92 = .ok (.getfield 37, 3) := by decide +kernel
theorem dX9_readSort_95 : decode cX9_readSort 95 = .ok (.iconst 1, 1) := by decide +kernel
theorem dX9_readSort_96 : decode cX9_readSort 96 = .ok (.iadd, 1) := by decide +kernel
theorem dX9_readSort_97 : decode cX9_readSort 97 = .ok (.putfield 37, 3) := by decide +kernel
theorem dX9_readSort_100 : decode cX9_readSort 100 = .ok (.return_, 1) := by decide +kernel
theorem dX9_tellSort_0 : decode cX9_tellSort 0 = .ok (.aload_n 0, 1) := by decide +kernel
theorem dX9_tellSort_1 : decode cX9_tellSort 1 = .ok (.getfield 37, 3) := by decide +kernel
theorem dX9_tellSort_4 : decode cX9_tellSort 4 = .ok (.ifCond .lt 26, 3) := by decide +kernel
theorem dX9_tellSort_7 : decode cX9_tellSort 7 = .ok (.aload_n 0, 1) := by decide +kernel
theorem dX9_tellSort_8 : decode cX9_tellSort 8 = .ok (.getfield 37, 3) := by decide +kernel
theorem dX9_tellSort_11 : decode cX9_tellSort 11 = .ok (.iconst 5, 1) := by decide +kernel
theorem dX9_tellSort_12 : decode cX9_tellSort 12 = .ok (.if_icmp .ge 18, 3) := by decide +kernel
theorem dX9_tellSort_15 : decode cX9_tellSort 15 = .ok (.aload_n 0, 1) := by decide +kernel
theorem dX9_tellSort_16 : decode cX9_tellSort 16 = .ok (.getfield 15, 3) := by decide +kernel
theorem dX9_tellSort_19 : decode cX9_tellSort 19 = .ok (.aload_n 0, 1) := by decide +kernel
theorem dX9_tellSort_20 : decode cX9_tellSort 20 = .ok (.getfield 37, 3) := by decide +kernel
theorem dX9_tellSort_23 : decode cX9_tellSort 23 = .ok (.bipush 6, 2) := by decide +kernel
theorem dX9_tellSort_25 : decode cX9_tellSort 25 = .ok (.imul, 1) := by decide +kernel
theorem dX9_tellSort_26 : decode cX9_tellSort 26 = .ok (.iload_n 1, 1) := by decide +kernel
theorem dX9_tellSort_27 : decode cX9_tellSort 27 = .ok (.iadd, 1) := by decide +kernel
theorem dX9_tellSort_28 : decode cX9_tellSort 28 = .ok (.iload_n 2, 1) := by decide +kernel
theorem dX9_tellSort_29 : decode cX9_tellSort 29 = .ok (.iastore, 1) := by decide +kernel
theorem dX9_tellSort_30 : decode cX9_tellSort 30 = .ok (.return_, 1) := by decide +kernel
theorem dX9_readName_0 : decode cX9_readName 0 = .ok (.aload_n 1, 1) := by decide +kernel
theorem dX9_readName_1 : decode cX9_readName 1 = .ok (.getfield 104, 3) := by decide +kernel
theorem dX9_readName_4 : decode cX9_readName 4 = .ok (.iconst 1, 1) := by decide +kernel
theorem dX9_readName_5 : decode cX9_readName 5 = .ok (.if_icmp .ne 21, 3) := by decide +kernel
theorem dX9_readName_8 : decode cX9_readName 8 = .ok (.aload_n 1, 1) := by decide +kernel
theorem dX9_readName_9 : decode cX9_readName 9 = .ok (.getfield 107, 3) := by decide +kernel
theorem dX9_readName_12 : decode cX9_readName 12 = .ok (.aload_n 1, 1) := by decide +kernel
theorem dX9_readName_13 : decode cX9_readName 13 = .ok (.getfield 110, 3) := by decide +kernel
theorem dX9_readName_16 : decode cX9_readName 16 = .ok (.isub, 1) := by decide +kernel
theorem dX9_readName_17 : decode cX9_readName 17 = .ok (.bipush 8, 2) := by decide +kernel
theorem dX9_readName_19 : decode cX9_readName 19 = .ok (.if_icmp .gt 7, 3) := by decide +kernel
theorem dX9_readName_22 : decode cX9_readName 22 = .ok (.iconst 1, 1) := by decide +kernel
theorem dX9_readName_23 : decode cX9_readName 23 = .ok (.goto 4, 3) := by decide +kernel
theorem dX9_readName_26 : decode cX9_readName 26 = .ok (.iconst 0, 1) := by decide +kernel
theorem dX9_readName_27 : decode cX9_readName 27 = .ok (.istore_n 2, 1) := by decide +kernel
theorem dX9_readName_28 : decode cX9_readName 28 = .ok (.iload_n 2, 1) := by decide +kernel
theorem dX9_readName_29 : decode cX9_readName 29 = .ok (.ifCond .eq 33, 3) := by decide +kernel
theorem dX9_readName_32 : decode cX9_readName 32 = .ok (.aload_n 1, 1) := by decide +kernel
theorem dX9_readName_33 : decode cX9_readName 33 = .ok (.invokestatic 113, 3) := by decide +kernel
theorem dX9_readName_36 : decode cX9_readName 36 = .ok (.ifCond .ne 26, 3) := by decide +kernel
theorem dX9_readName_39 : decode cX9_readName 39 = .ok (.aload_n 0, 1) := by decide +kernel
theorem dX9_readName_40 : decode cX9_readName 40 = .ok (.aload_n 1, 1) := by decide +kernel
theorem dX9_readName_41 : decode cX9_readName 41 = .ok (.invokevirtual 117, 3) := by decide +kernel
theorem dX9_readName_44 : decode cX9_readName 44 = .ok (.ifCond .ne 18, 3) := by decide +kernel
theorem dX9_readName_47 : decode cX9_readName 47 = .ok (.aload_n 0, 1) := by decide +kernel
theorem dX9_readName_48 : decode cX9_readName 48 = .ok (.getfield 37, 3) := by decide +kernel
theorem dX9_readName_51 : decode cX9_readName 51 = .ok (.ifCond .lt 11, 3) := by decide +kernel
theorem dX9_readName_54 : decode cX9_readName 54 = .ok (.aload_n 0, 1) := by decide +kernel
theorem dX9_readName_55 : decode cX9_readName 55 = .ok (.getfield 37, 3) := by decide +kernel
theorem dX9_readName_58 : decode cX9_readName 58 = .ok (.iconst 5, 1) := by decide +kernel
theorem dX9_readName_59 : decode cX9_readName 59 = .ok (.if_icmp .lt 8, 3) := by decide +kernel
theorem dX9_readName_62 : decode cX9_readName 62 = .ok (.aload_n 1, 1) := by decide +kernel
theorem dX9_readName_63 : decode cX9_readName 63 = .ok (.invokevirtual 53, 3) := by decide +kernel
theorem dX9_readName_66 : decode cX9_readName 66 = .ok (.return_, 1) := by decide +kernel
theorem dX9_readName_67 : decode cX9_readName 67 = .ok (.aload_n 0, 1) := by decide +kernel
theorem dX9_readName_68 : decode cX9_readName 68 = .ok (.getfield 18, 3) := by decide +kernel
theorem dX9_readName_71 : decode cX9_readName 71 = .ok (.aload_n 0, 1) := by decide +kernel
theorem dX9_readName_72 : decode cX9_readName 72 = .ok (.getfield 37, 3) := by decide +kernel
theorem dX9_readName_75 : decode cX9_readName 75 = .ok (.aload_n 1, 1) := by decide +kernel
theorem dX9_readName_76 : decode cX9_readName 76 = .ok (.getfield 110, 3) := by decide +kernel
theorem dX9_readName_79 : decode cX9_readName 79 = .ok (.iastore, 1) := by decide +kernel
theorem dX9_readName_80 : decode cX9_readName 80 = .ok (.aload_n 0, 1) := by decide +kernel
theorem dX9_readName_81 : decode cX9_readName 81 = .ok (.getfield 21, 3) := by decide +kernel
theorem dX9_readName_84 : decode cX9_readName 84 = .ok (.aload_n 0, 1) := by decide +kernel
theorem dX9_readName_85 : decode cX9_readName 85 = .ok (.getfield 37, 3) := by decide +kernel
theorem dX9_readName_88 : decode cX9_readName 88 = .ok (.aload_n 1, 1) := by decide +kernel
theorem dX9_readName_89 : decode cX9_readName 89 = .ok (.getfield 107, 3) := by decide +kernel
theorem dX9_readName_92 : decode cX9_readName 92 = .ok (.iastore, 1) := by decide +kernel
theorem dX9_readName_93 : decode cX9_readName 93 = .ok (.aload_n 1, 1) := by decide +kernel
theorem dX9_readName_94 : decode cX9_readName 94 = .ok (.invokevirtual 83, 3) := by decide +kernel
theorem dX9_readName_97 : decode cX9_readName 97 = .ok (.return_, 1) := by decide +kernel
theorem dX9_isTaken_0 : decode cX9_isTaken 0 = .ok (.iconst 0, 1) := by decide +kernel
theorem dX9_isTaken_1 : decode cX9_isTaken 1 = .ok (.istore_n 2, 1) := by decide +kernel
theorem dX9_isTaken_2 : decode cX9_isTaken 2 = .ok (.iload_n 2, 1) := by decide +kernel
theorem dX9_isTaken_3 : decode cX9_isTaken 3 = .ok (.aload_n 0, 1) := by decide +kernel
theorem dX9_isTaken_4 : decode cX9_isTaken 4 = .ok (.getfield 37, 3) := by decide +kernel
theorem dX9_isTaken_7 : decode cX9_isTaken 7 = .ok (.if_icmp .ge 35, 3) := by decide +kernel
theorem dX9_isTaken_10 : decode cX9_isTaken 10 = .ok (.iload_n 2, 1) := by decide +kernel
theorem dX9_isTaken_11 : decode cX9_isTaken 11 = .ok (.iconst 5, 1) := by decide +kernel
theorem dX9_isTaken_12 : decode cX9_isTaken 12 = .ok (.if_icmp .ge 30, 3) := by decide +kernel
theorem dX9_isTaken_15 : decode cX9_isTaken 15 = .ok (.aload_n 1, 1) := by decide +kernel
theorem dX9_isTaken_16 : decode cX9_isTaken 16 = .ok (.aload_n 0, 1) := by decide +kernel
theorem dX9_isTaken_17 : decode cX9_isTaken 17 = .ok (.getfield 18, 3) := by decide +kernel
theorem dX9_isTaken_20 : decode cX9_isTaken 20 = .ok (.iload_n 2, 1) := by decide +kernel
theorem dX9_isTaken_21 : decode cX9_isTaken 21 = .ok (.iaload, 1) := by decide +kernel
theorem dX9_isTaken_22 : decode cX9_isTaken 22 = .ok (.aload_n 0, 1) := by decide +kernel
theorem dX9_isTaken_23 : decode cX9_isTaken 23 = .ok (.getfield 21, 3) := by decide +kernel
theorem dX9_isTaken_26 : decode cX9_isTaken 26 = .ok (.iload_n 2, 1) := by decide +kernel
theorem dX9_isTaken_27 : decode cX9_isTaken 27 = .ok (.iaload, 1) := by decide +kernel
theorem dX9_isTaken_28 : decode cX9_isTaken 28 = .ok (.invokevirtual 120, 3) := by decide +kernel
theorem dX9_isTaken_31 : decode cX9_isTaken 31 = .ok (.ifCond .eq 5, 3) := by decide +kernel
theorem dX9_isTaken_34 : decode cX9_isTaken 34 = .ok (.iconst 1, 1) := by decide +kernel
theorem dX9_isTaken_35 : decode cX9_isTaken 35 = .ok (.ireturn, 1) := by decide +kernel
theorem dX9_isTaken_36 : decode cX9_isTaken 36 = .ok (.iinc 2 1, 3) := by decide +kernel
theorem dX9_isTaken_39 : decode cX9_isTaken 39 = .ok (.goto (-37), 3) := by decide +kernel
theorem dX9_isTaken_42 : decode cX9_isTaken 42 = .ok (.iconst 0, 1) := by decide +kernel
theorem dX9_isTaken_43 : decode cX9_isTaken 43 = .ok (.ireturn, 1) := by decide +kernel
theorem dX9_isKept_0 : decode cX9_isKept 0 = .ok (.aload_n 0, 1) := by decide +kernel
theorem dX9_isKept_1 : decode cX9_isKept 1 = .ok (.ldc 59, 2) := by decide +kernel
theorem dX9_isKept_3 : decode cX9_isKept 3 = .ok (.invokevirtual 61, 3) := by decide +kernel
theorem dX9_isKept_6 : decode cX9_isKept 6 = .ok (.ifCond .ne 39, 3) := by decide +kernel
theorem dX9_isKept_9 : decode cX9_isKept 9 = .ok (.aload_n 0, 1) := by decide +kernel
theorem dX9_isKept_10 : decode cX9_isKept 10 = .ok (.ldc 68, 2) := by decide +kernel
theorem dX9_isKept_12 : decode cX9_isKept 12 = .ok (.invokevirtual 61, 3) := by decide +kernel
theorem dX9_isKept_15 : decode cX9_isKept 15 = .ok (.ifCond .ne 30, 3) := by decide +kernel
theorem dX9_isKept_18 : decode cX9_isKept 18 = .ok (.aload_n 0, 1) := by decide +kernel
theorem dX9_isKept_19 : decode cX9_isKept 19 = .ok (.ldc 73, 2) := by decide +kernel
theorem dX9_isKept_21 : decode cX9_isKept 21 = .ok (.invokevirtual 61, 3) := by decide +kernel
theorem dX9_isKept_24 : decode cX9_isKept 24 = .ok (.ifCond .ne 21, 3) := by decide +kernel
theorem dX9_isKept_27 : decode cX9_isKept 27 = .ok (.aload_n 0, 1) := by decide +kernel
theorem dX9_isKept_28 : decode cX9_isKept 28 = .ok (.ldc 79, 2) := by decide +kernel
theorem dX9_isKept_30 : decode cX9_isKept 30 = .ok (.invokevirtual 61, 3) := by decide +kernel
theorem dX9_isKept_33 : decode cX9_isKept 33 = .ok (.ifCond .ne 12, 3) := by decide +kernel
theorem dX9_isKept_36 : decode cX9_isKept 36 = .ok (.aload_n 0, 1) := by decide +kernel
theorem dX9_isKept_37 : decode cX9_isKept 37 = .ok (.ldc 81, 2) := by decide +kernel
theorem dX9_isKept_39 : decode cX9_isKept 39 = .ok (.invokevirtual 61, 3) := by decide +kernel
theorem dX9_isKept_42 : decode cX9_isKept 42 = .ok (.ifCond .eq 7, 3) := by decide +kernel
theorem dX9_isKept_45 : decode cX9_isKept 45 = .ok (.iconst 1, 1) := by decide +kernel
theorem dX9_isKept_46 : decode cX9_isKept 46 = .ok (.goto 4, 3) := by decide +kernel
theorem dX9_isKept_49 : decode cX9_isKept 49 = .ok (.iconst 0, 1) := by decide +kernel
theorem dX9_isKept_50 : decode cX9_isKept 50 = .ok (.ireturn, 1) := by decide +kernel
theorem dX9_takeOver_0 : decode cX9_takeOver 0 = .ok (.aload_n 1, 1) := by decide +kernel
theorem dX9_takeOver_1 : decode cX9_takeOver 1 = .ok (.getfield 9, 3) := by decide +kernel
theorem dX9_takeOver_4 : decode cX9_takeOver 4 = .ok (.iconst 0, 1) := by decide +kernel
theorem dX9_takeOver_5 : decode cX9_takeOver 5 = .ok (.aload_n 0, 1) := by decide +kernel
theorem dX9_takeOver_6 : decode cX9_takeOver 6 = .ok (.getfield 9, 3) := by decide +kernel
theorem dX9_takeOver_9 : decode cX9_takeOver 9 = .ok (.iconst 0, 1) := by decide +kernel
theorem dX9_takeOver_10 : decode cX9_takeOver 10 = .ok (.bipush 9, 2) := by decide +kernel
theorem dX9_takeOver_12 : decode cX9_takeOver 12 = .ok (.invokestatic 124, 3) := by decide +kernel
theorem dX9_takeOver_15 : decode cX9_takeOver 15 = .ok (.aload_n 1, 1) := by decide +kernel
theorem dX9_takeOver_16 : decode cX9_takeOver 16 = .ok (.getfield 15, 3) := by decide +kernel
theorem dX9_takeOver_19 : decode cX9_takeOver 19 = .ok (.iconst 0, 1) := by decide +kernel
theorem dX9_takeOver_20 : decode cX9_takeOver 20 = .ok (.aload_n 0, 1) := by decide +kernel
theorem dX9_takeOver_21 : decode cX9_takeOver 21 = .ok (.getfield 15, 3) := by decide +kernel
theorem dX9_takeOver_24 : decode cX9_takeOver 24 = .ok (.iconst 0, 1) := by decide +kernel
theorem dX9_takeOver_25 : decode cX9_takeOver 25 = .ok (.bipush 30, 2) := by decide +kernel
theorem dX9_takeOver_27 : decode cX9_takeOver 27 = .ok (.invokestatic 124, 3) := by decide +kernel
theorem dX9_takeOver_30 : decode cX9_takeOver 30 = .ok (.aload_n 0, 1) := by decide +kernel
theorem dX9_takeOver_31 : decode cX9_takeOver 31 = .ok (.aload_n 1, 1) := by decide +kernel
theorem dX9_takeOver_32 : decode cX9_takeOver 32 = .ok (.getfield 34, 3) := by decide +kernel
theorem dX9_takeOver_35 : decode cX9_takeOver 35 = .ok (.putfield 34, 3) := by decide +kernel
theorem dX9_takeOver_38 : decode cX9_takeOver 38 = .ok (.aload_n 0, 1) := by decide +kernel
theorem dX9_takeOver_39 : decode cX9_takeOver 39 = .ok (.aload_n 1, 1) := by decide +kernel
theorem dX9_takeOver_40 : decode cX9_takeOver 40 = .ok (.getfield 37, 3) := by decide +kernel
theorem dX9_takeOver_43 : decode cX9_takeOver 43 = .ok (.putfield 37, 3) := by decide +kernel
theorem dX9_takeOver_46 : decode cX9_takeOver 46 = .ok (.aload_n 0, 1) := by decide +kernel
theorem dX9_takeOver_47 : decode cX9_takeOver 47 = .ok (.aload_n 1, 1) := by decide +kernel
theorem dX9_takeOver_48 : decode cX9_takeOver 48 = .ok (.getfield 24, 3) := by decide +kernel
theorem dX9_takeOver_51 : decode cX9_takeOver 51 = .ok (.putfield 24, 3) := by decide +kernel
theorem dX9_takeOver_54 : decode cX9_takeOver 54 = .ok (.aload_n 0, 1) := by decide +kernel
theorem dX9_takeOver_55 : decode cX9_takeOver 55 = .ok (.aload_n 1, 1) := by decide +kernel
theorem dX9_takeOver_56 : decode cX9_takeOver 56 = .ok (.getfield 28, 3) := by decide +kernel
theorem dX9_takeOver_59 : decode cX9_takeOver 59 = .ok (.putfield 28, 3) := by decide +kernel
theorem dX9_takeOver_62 : decode cX9_takeOver 62 = .ok (.aload_n 0, 1) := by decide +kernel
theorem dX9_takeOver_63 : decode cX9_takeOver 63 = .ok (.aload_n 1, 1) := by decide +kernel
theorem dX9_takeOver_64 : decode cX9_takeOver 64 = .ok (.getfield 31, 3) := by decide +kernel
theorem dX9_takeOver_67 : decode cX9_takeOver 67 = .ok (.putfield 31, 3) := by decide +kernel
theorem dX9_takeOver_70 : decode cX9_takeOver 70 = .ok (.return_, 1) := by decide +kernel
theorem dX9_isTold_0 : decode cX9_isTold 0 = .ok (.aload_n 0, 1) := by decide +kernel
theorem dX9_isTold_1 : decode cX9_isTold 1 = .ok (.getfield 34, 3) := by decide +kernel
theorem dX9_isTold_4 : decode cX9_isTold 4 = .ok (.ifCond .le 7, 3) := by decide +kernel
theorem dX9_isTold_7 : decode cX9_isTold 7 = .ok (.iconst 1, 1) := by decide +kernel
theorem dX9_isTold_8 : decode cX9_isTold 8 = .ok (.goto 4, 3) := by decide +kernel
theorem dX9_isTold_11 : decode cX9_isTold 11 = .ok (.iconst 0, 1) := by decide +kernel
theorem dX9_isTold_12 : decode cX9_isTold 12 = .ok (.ireturn, 1) := by decide +kernel
theorem dX9_hasCounter_0 : decode cX9_hasCounter 0 = .ok (.iload_n 1, 1) := by decide +kernel
theorem dX9_hasCounter_1 : decode cX9_hasCounter 1 = .ok (.ifCond .lt 20, 3) := by decide +kernel
theorem dX9_hasCounter_4 : decode cX9_hasCounter 4 = .ok (.iload_n 1, 1) := by decide +kernel
theorem dX9_hasCounter_5 : decode cX9_hasCounter 5 = .ok (.aload_n 0, 1) := by decide +kernel
theorem dX9_hasCounter_6 : decode cX9_hasCounter 6 = .ok (.getfield 34, 3) := by decide +kernel
theorem dX9_hasCounter_9 : decode cX9_hasCounter 9 = .ok (.if_icmp .ge 12, 3) := by decide +kernel
theorem dX9_hasCounter_12 : decode cX9_hasCounter 12 = .ok (.iload_n 1, 1) := by decide +kernel
theorem dX9_hasCounter_13 : decode cX9_hasCounter 13 = .ok (.iconst 3, 1) := by decide +kernel
theorem dX9_hasCounter_14 : decode cX9_hasCounter 14 = .ok (.if_icmp .ge 7, 3) := by decide +kernel
theorem dX9_hasCounter_17 : decode cX9_hasCounter 17 = .ok (.iconst 1, 1) := by decide +kernel
theorem dX9_hasCounter_18 : decode cX9_hasCounter 18 = .ok (.goto 4, 3) := by decide +kernel
theorem dX9_hasCounter_21 : decode cX9_hasCounter 21 = .ok (.iconst 0, 1) := by decide +kernel
theorem dX9_hasCounter_22 : decode cX9_hasCounter 22 = .ok (.ireturn, 1) := by decide +kernel
theorem dX9_hasSort_0 : decode cX9_hasSort 0 = .ok (.iload_n 1, 1) := by decide +kernel
theorem dX9_hasSort_1 : decode cX9_hasSort 1 = .ok (.ifCond .lt 20, 3) := by decide +kernel
theorem dX9_hasSort_4 : decode cX9_hasSort 4 = .ok (.iload_n 1, 1) := by decide +kernel
theorem dX9_hasSort_5 : decode cX9_hasSort 5 = .ok (.aload_n 0, 1) := by decide +kernel
theorem dX9_hasSort_6 : decode cX9_hasSort 6 = .ok (.getfield 37, 3) := by decide +kernel
theorem dX9_hasSort_9 : decode cX9_hasSort 9 = .ok (.if_icmp .ge 12, 3) := by decide +kernel
theorem dX9_hasSort_12 : decode cX9_hasSort 12 = .ok (.iload_n 1, 1) := by decide +kernel
theorem dX9_hasSort_13 : decode cX9_hasSort 13 = .ok (.iconst 5, 1) := by decide +kernel
theorem dX9_hasSort_14 : decode cX9_hasSort 14 = .ok (.if_icmp .ge 7, 3) := by decide +kernel
theorem dX9_hasSort_17 : decode cX9_hasSort 17 = .ok (.iconst 1, 1) := by decide +kernel
theorem dX9_hasSort_18 : decode cX9_hasSort 18 = .ok (.goto 4, 3) := by decide +kernel
theorem dX9_hasSort_21 : decode cX9_hasSort 21 = .ok (.iconst 0, 1) := by decide +kernel
theorem dX9_hasSort_22 : decode cX9_hasSort 22 = .ok (.ireturn, 1) := by decide +kernel
theorem dX9_ofCounter_0 : decode cX9_ofCounter 0 = .ok (.aload_n 0, 1) := by decide +kernel
theorem dX9_ofCounter_1 : decode cX9_ofCounter 1 = .ok (.iload_n 1, 1) := by decide +kernel
theorem dX9_ofCounter_2 : decode cX9_ofCounter 2 = .ok (.invokevirtual 130, 3) := by decide +kernel
theorem dX9_ofCounter_5 : decode cX9_ofCounter 5 = .ok (.ifCond .eq 12, 3) := by decide +kernel
theorem dX9_ofCounter_8 : decode cX9_ofCounter 8 = .ok (.iload_n 2, 1) := by decide +kernel
theorem dX9_ofCounter_9 : decode cX9_ofCounter 9 = .ok (.ifCond .lt 8, 3) := by decide +kernel
theorem dX9_ofCounter_12 : decode cX9_ofCounter 12 = .ok (.iload_n 2, 1) := by decide +kernel
theorem dX9_ofCounter_13 : decode cX9_ofCounter 13 = .ok (.iconst 3, 1) := by decide +kernel
theorem dX9_ofCounter_14 : decode cX9_ofCounter 14 = .ok (.if_icmp .lt 5, 3) := by decide +kernel
theorem dX9_ofCounter_17 : decode cX9_ofCounter 17 = .ok (.iconst 0, 1) := by decide +kernel
theorem dX9_ofCounter_18 : decode cX9_ofCounter 18 = .ok (.ireturn, 1) := by decide +kernel
theorem dX9_ofCounter_19 : decode cX9_ofCounter 19 = .ok (.aload_n 0, 1) := by decide +kernel
theorem dX9_ofCounter_20 : decode cX9_ofCounter 20 = .ok (.getfield 9, 3) := by decide +kernel
theorem dX9_ofCounter_23 : decode cX9_ofCounter 23 = .ok (.iload_n 1, 1) := by decide +kernel
theorem dX9_ofCounter_24 : decode cX9_ofCounter 24 = .ok (.iconst 3, 1) := by decide +kernel
theorem dX9_ofCounter_25 : decode cX9_ofCounter 25 = .ok (.imul, 1) := by decide +kernel
theorem dX9_ofCounter_26 : decode cX9_ofCounter 26 = .ok (.iload_n 2, 1) := by decide +kernel
theorem dX9_ofCounter_27 : decode cX9_ofCounter 27 = .ok (.iadd, 1) := by decide +kernel
theorem dX9_ofCounter_28 : decode cX9_ofCounter 28 = .ok (.iaload, 1) := by decide +kernel
theorem dX9_ofCounter_29 : decode cX9_ofCounter 29 = .ok (.ireturn, 1) := by decide +kernel
theorem dX9_ofSort_0 : decode cX9_ofSort 0 = .ok (.aload_n 0, 1) := by decide +kernel
theorem dX9_ofSort_1 : decode cX9_ofSort 1 = .ok (.iload_n 1, 1) := by decide +kernel
theorem dX9_ofSort_2 : decode cX9_ofSort 2 = .ok (.invokevirtual 134, 3) := by decide +kernel
theorem dX9_ofSort_5 : decode cX9_ofSort 5 = .ok (.ifCond .eq 13, 3) := by decide +kernel
theorem dX9_ofSort_8 : decode cX9_ofSort 8 = .ok (.iload_n 2, 1) := by decide +kernel
theorem dX9_ofSort_9 : decode cX9_ofSort 9 = .ok (.ifCond .lt 9, 3) := by decide +kernel
theorem dX9_ofSort_12 : decode cX9_ofSort 12 = .ok (.iload_n 2, 1) := by decide +kernel
theorem dX9_ofSort_13 : decode cX9_ofSort 13 = .ok (.bipush 6, 2) := by decide +kernel
theorem dX9_ofSort_15 : decode cX9_ofSort 15 = .ok (.if_icmp .lt 5, 3) := by decide +kernel
theorem dX9_ofSort_18 : decode cX9_ofSort 18 = .ok (.iconst 0, 1) := by decide +kernel
theorem dX9_ofSort_19 : decode cX9_ofSort 19 = .ok (.ireturn, 1) := by decide +kernel
theorem dX9_ofSort_20 : decode cX9_ofSort 20 = .ok (.aload_n 0, 1) := by decide +kernel
theorem dX9_ofSort_21 : decode cX9_ofSort 21 = .ok (.getfield 15, 3) := by decide +kernel
theorem dX9_ofSort_24 : decode cX9_ofSort 24 = .ok (.iload_n 1, 1) := by decide +kernel
theorem dX9_ofSort_25 : decode cX9_ofSort 25 = .ok (.bipush 6, 2) := by decide +kernel
theorem dX9_ofSort_27 : decode cX9_ofSort 27 = .ok (.imul, 1) := by decide +kernel
theorem dX9_ofSort_28 : decode cX9_ofSort 28 = .ok (.iload_n 2, 1) := by decide +kernel
theorem dX9_ofSort_29 : decode cX9_ofSort 29 = .ok (.iadd, 1) := by decide +kernel
theorem dX9_ofSort_30 : decode cX9_ofSort 30 = .ok (.iaload, 1) := by decide +kernel
theorem dX9_ofSort_31 : decode cX9_ofSort 31 = .ok (.ireturn, 1) := by decide +kernel
theorem dX9_closing_0 : decode cX9_closing 0 = .ok (.aload_n 0, 1) := by decide +kernel
theorem dX9_closing_1 : decode cX9_closing 1 = .ok (.getfield 24, 3) := by decide +kernel
theorem dX9_closing_4 : decode cX9_closing 4 = .ok (.iconst (-1), 1) := by decide +kernel
theorem dX9_closing_5 : decode cX9_closing 5 = .ok (.if_icmp .ne 8, 3) := by decide +kernel
theorem dX9_closing_8 : decode cX9_closing 8 = .ok (.bipush 120, 2) := by decide +kernel
theorem dX9_closing_10 : decode cX9_closing 10 = .ok (.goto 7, 3) := by decide +kernel
theorem dX9_closing_13 : decode cX9_closing 13 = .ok (.aload_n 0, 1) := by decide +kernel
theorem dX9_closing_14 : decode cX9_closing 14 = .ok (.getfield 24, 3) := by decide +kernel
theorem dX9_closing_17 : decode cX9_closing 17 = .ok (.ireturn, 1) := by decide +kernel
theorem dX9_fee_0 : decode cX9_fee 0 = .ok (.aload_n 0, 1) := by decide +kernel
theorem dX9_fee_1 : decode cX9_fee 1 = .ok (.getfield 28, 3) := by decide +kernel
theorem dX9_fee_4 : decode cX9_fee 4 = .ok (.iconst 0, 1) := by decide +kernel
theorem dX9_fee_5 : decode cX9_fee 5 = .ok (.invokestatic 137, 3) := by decide +kernel
theorem dX9_fee_8 : decode cX9_fee 8 = .ok (.ireturn, 1) := by decide +kernel
theorem dX9_bow_0 : decode cX9_bow 0 = .ok (.aload_n 0, 1) := by decide +kernel
theorem dX9_bow_1 : decode cX9_bow 1 = .ok (.getfield 31, 3) := by decide +kernel
theorem dX9_bow_4 : decode cX9_bow 4 = .ok (.iconst 0, 1) := by decide +kernel
theorem dX9_bow_5 : decode cX9_bow 5 = .ok (.invokestatic 137, 3) := by decide +kernel
theorem dX9_bow_8 : decode cX9_bow 8 = .ok (.ireturn, 1) := by decide +kernel
theorem dX10_init_0 : decode cX10_init 0 = .ok (.aload_n 0, 1) := by decide +kernel
theorem dX10_init_1 : decode cX10_init 1 = .ok (.invokespecial 1, 3) := by decide +kernel
theorem dX10_init_4 : decode cX10_init 4 = .ok (.new 7, 3) := by decide +kernel
theorem dX10_init_7 : decode cX10_init 7 = .ok (.dup, 1) := by decide +kernel
theorem dX10_init_8 : decode cX10_init 8 = .ok (.invokespecial 9, 3) := by decide +kernel
theorem dX10_init_11 : decode cX10_init 11 = .ok (.astore_n 1, 1) := by decide +kernel
theorem dX10_init_12 : decode cX10_init 12 = .ok (.aload_n 0, 1) := by decide +kernel
theorem dX10_init_13 : decode cX10_init 13 = .ok (.new 10, 3) := by decide +kernel
theorem dX10_init_16 : decode cX10_init 16 = .ok (.dup, 1) := by decide +kernel
theorem dX10_init_17 : decode cX10_init 17 = .ok (.invokespecial 12, 3) := by decide +kernel
theorem dX10_init_20 : decode cX10_init 20 = .ok (.putfield 13, 3) := by decide +kernel
theorem dX10_init_23 : decode cX10_init 23 = .ok (.aload_n 0, 1) := by decide +kernel
theorem dX10_init_24 : decode cX10_init 24 = .ok (.new 19, 3) := by decide +kernel
theorem dX10_init_27 : decode cX10_init 27 = .ok (.dup, 1) := by decide +kernel
theorem dX10_init_28 : decode cX10_init 28 = .ok (.invokespecial 21, 3) := by decide +kernel
theorem dX10_init_31 : decode cX10_init 31 = .ok (.putfield 22, 3) := by decide +kernel
theorem dX10_init_34 : decode cX10_init 34 = .ok (.aload_n 0, 1) := by decide +kernel
theorem dX10_init_35 : decode cX10_init 35 = .ok (.new 19, 3) := by decide +kernel
theorem dX10_init_38 : decode cX10_init 38 = .ok (.dup, 1) := by decide +kernel
theorem dX10_init_39 : decode cX10_init 39 = .ok (.invokespecial 21, 3) := by decide +kernel
theorem dX10_init_42 : decode cX10_init 42 = .ok (.putfield 26, 3) := by decide +kernel
theorem dX10_init_45 : decode cX10_init 45 = .ok (.aload_n 0, 1) := by decide +kernel
theorem dX10_init_46 : decode cX10_init 46 = .ok (.new 29, 3) := by decide +kernel
theorem dX10_init_49 : decode cX10_init 49 = .ok (.dup, 1) := by decide +kernel
theorem dX10_init_50 : decode cX10_init 50 = .ok (.invokespecial 31, 3) := by decide +kernel
theorem dX10_init_53 : decode cX10_init 53 = .ok (.putfield 32, 3) := by decide +kernel
theorem dX10_init_56 : decode cX10_init 56 = .ok (.aload_n 0, 1) := by decide +kernel
theorem dX10_init_57 : decode cX10_init 57 = .ok (.new 29, 3) := by decide +kernel
theorem dX10_init_60 : decode cX10_init 60 = .ok (.dup, 1) := by decide +kernel
theorem dX10_init_61 : decode cX10_init 61 = .ok (.invokespecial 31, 3) := by decide +kernel
theorem dX10_init_64 : decode cX10_init 64 = .ok (.putfield 36, 3) := by decide +kernel
theorem dX10_init_67 : decode cX10_init 67 = .ok (.aload_n 0, 1) := by decide +kernel
theorem dX10_init_68 : decode cX10_init 68 = .ok (.new 39, 3) := by decide +kernel
theorem dX10_init_71 : decode cX10_init 71 = .ok (.dup, 1) := by decide +kernel
theorem dX10_init_72 : decode cX10_init 72 = .ok (.aload_n 0, 1) := by decide +kernel
theorem dX10_init_73 : decode cX10_init 73 = .ok (.getfield 22, 3) := by decide +kernel
theorem dX10_init_76 : decode cX10_init 76 = .ok (.aload_n 0, 1) := by decide +kernel
theorem dX10_init_77 : decode cX10_init 77 = .ok (.getfield 32, 3) := by decide +kernel
theorem dX10_init_80 : decode cX10_init 80 = .ok (.aload_n 1, 1) := by decide +kernel
theorem dX10_init_81 : decode cX10_init 81 = .ok (.invokespecial 41, 3) := by decide +kernel
theorem dX10_init_84 : decode cX10_init 84 = .ok (.putfield 44, 3) := by decide +kernel
theorem dX10_init_87 : decode cX10_init 87 = .ok (.aload_n 0, 1) := by decide +kernel
theorem dX10_init_88 : decode cX10_init 88 = .ok (.iconst 3, 1) := by decide +kernel
theorem dX10_init_89 : decode cX10_init 89 = .ok (.anewarray 39, 3) := by decide +kernel
theorem dX10_init_92 : decode cX10_init 92 = .ok (.putfield 48, 3) := by decide +kernel
theorem dX10_init_95 : decode cX10_init 95 = .ok (.iconst 0, 1) := by decide +kernel
theorem dX10_init_96 : decode cX10_init 96 = .ok (.istore_n 2, 1) := by decide +kernel
theorem dX10_init_97 : decode cX10_init 97 = .ok (.iload_n 2, 1) := by decide +kernel
theorem dX10_init_98 : decode cX10_init 98 = .ok (.iconst 3, 1) := by decide +kernel
theorem dX10_init_99 : decode cX10_init 99 = .ok (.if_icmp .ge 31, 3) := by decide +kernel
theorem dX10_init_102 : decode cX10_init 102 = .ok (.aload_n 0, 1) := by decide +kernel
theorem dX10_init_103 : decode cX10_init 103 = .ok (.getfield 48, 3) := by decide +kernel
theorem dX10_init_106 : decode cX10_init 106 = .ok (.iload_n 2, 1) := by decide +kernel
theorem dX10_init_107 : decode cX10_init 107 = .ok (.new 39, 3) := by decide +kernel
theorem dX10_init_110 : decode cX10_init 110 = .ok (.dup, 1) := by decide +kernel
theorem dX10_init_111 : decode cX10_init 111 = .ok (.aload_n 0, 1) := by decide +kernel
theorem dX10_init_112 : decode cX10_init 112 = .ok (.getfield 22, 3) := by decide +kernel
theorem dX10_init_115 : decode cX10_init 115 = .ok (.aload_n 0, 1) := by decide +kernel
theorem dX10_init_116 : decode cX10_init 116 = .ok (.getfield 32, 3) := by decide +kernel
theorem dX10_init_119 : decode cX10_init 119 = .ok (.aload_n 1, 1) := by decide +kernel
theorem dX10_init_120 : decode cX10_init 120 = .ok (.invokespecial 41, 3) := by decide +kernel
theorem dX10_init_123 : decode cX10_init 123 = .ok (.aastore, 1) := by decide +kernel
theorem dX10_init_124 : decode cX10_init 124 = .ok (.iinc 2 1, 3) := by decide +kernel
theorem dX10_init_127 : decode cX10_init 127 = .ok (.goto (-30), 3) := by decide +kernel
theorem dX10_init_130 : decode cX10_init 130 = .ok (.aload_n 0, 1) := by decide +kernel
theorem dX10_init_131 : decode cX10_init 131 = .ok (.iconst 3, 1) := by decide +kernel
theorem dX10_init_132 : decode cX10_init 132 = .ok (.newarray .boolean, 2) := by decide +kernel
theorem dX10_init_134 : decode cX10_init 134 = .ok (.putfield 52, 3) := by decide +kernel
theorem dX10_init_137 : decode cX10_init 137 = .ok (.aload_n 0, 1) := by decide +kernel
theorem dX10_init_138 : decode cX10_init 138 = .ok (.new 56, 3) := by decide +kernel
theorem dX10_init_141 : decode cX10_init 141 = .ok (.dup, 1) := by decide +kernel
theorem dX10_init_142 : decode cX10_init 142 = .ok (.aload_n 0, 1) := by decide +kernel
theorem dX10_init_143 : decode cX10_init 143 = .ok (.getfield 32, 3) := by decide +kernel
theorem dX10_init_146 : decode cX10_init 146 = .ok (.aload_n 1, 1) := by decide +kernel
theorem dX10_init_147 : decode cX10_init 147 = .ok (.invokespecial 58, 3) := by decide +kernel
theorem dX10_init_150 : decode cX10_init 150 = .ok (.putfield 61, 3) := by decide +kernel
theorem dX10_init_153 : decode cX10_init 153 = .ok (.aload_n 0, 1) := by decide +kernel
theorem dX10_init_154 : decode cX10_init 154 = .ok (.new 65, 3) := by decide +kernel
theorem dX10_init_157 : decode cX10_init 157 = .ok (.dup, 1) := by decide +kernel
theorem dX10_init_158 : decode cX10_init 158 = .ok (.invokespecial 67, 3) := by decide +kernel
theorem dX10_init_161 : decode cX10_init 161 = .ok (.putfield 68, 3) := by decide +kernel
theorem dX10_init_164 : decode cX10_init 164 = .ok (.return_, 1) := by decide +kernel
theorem dX10_feed_0 : decode cX10_feed 0 = .ok (.aload_n 0, 1) := by decide +kernel
theorem dX10_feed_1 : decode cX10_feed 1 = .ok (.getfield 13, 3) := by decide +kernel
theorem dX10_feed_4 : decode cX10_feed 4 = .ok (.getfield 72, 3) := by decide +kernel
theorem dX10_feed_7 : decode cX10_feed 7 = .ok (.sipush 480, 3) := by decide +kernel
theorem dX10_feed_10 : decode cX10_feed 10 = .ok (.if_icmp .le 5, 3) := by decide +kernel
theorem dX10_feed_13 : decode cX10_feed 13 = .ok (.iconst (-1), 1) := by decide +kernel
theorem dX10_feed_14 : decode cX10_feed 14 = .ok (.ireturn, 1) := by decide +kernel
theorem dX10_feed_15 : decode cX10_feed 15 = .ok (.aload_n 0, 1) := by decide +kernel
theorem dX10_feed_16 : decode cX10_feed 16 = .ok (.getfield 13, 3) := by decide +kernel
theorem dX10_feed_19 : decode cX10_feed 19 = .ok (.iload_n 1, 1) := by decide +kernel
theorem dX10_feed_20 : decode cX10_feed 20 = .ok (.invokevirtual 76, 3) := by decide +kernel
theorem dX10_feed_23 : decode cX10_feed 23 = .ok (.aload_n 0, 1) := by decide +kernel
theorem dX10_feed_24 : decode cX10_feed 24 = .ok (.getfield 13, 3) := by decide +kernel
theorem dX10_feed_27 : decode cX10_feed 27 = .ok (.iload_n 2, 1) := by decide +kernel
theorem dX10_feed_28 : decode cX10_feed 28 = .ok (.invokevirtual 76, 3) := by decide +kernel
theorem dX10_feed_31 : decode cX10_feed 31 = .ok (.aload_n 0, 1) := by decide +kernel
theorem dX10_feed_32 : decode cX10_feed 32 = .ok (.getfield 13, 3) := by decide +kernel
theorem dX10_feed_35 : decode cX10_feed 35 = .ok (.iload_n 3, 1) := by decide +kernel
theorem dX10_feed_36 : decode cX10_feed 36 = .ok (.invokevirtual 76, 3) := by decide +kernel
theorem dX10_feed_39 : decode cX10_feed 39 = .ok (.aload_n 0, 1) := by decide +kernel
theorem dX10_feed_40 : decode cX10_feed 40 = .ok (.getfield 13, 3) := by decide +kernel
theorem dX10_feed_43 : decode cX10_feed 43 = .ok (.iload 4, 2) := by decide +kernel
theorem dX10_feed_45 : decode cX10_feed 45 = .ok (.invokevirtual 76, 3) := by decide +kernel
theorem dX10_feed_48 : decode cX10_feed 48 = .ok (.aload_n 0, 1) := by decide +kernel
theorem dX10_feed_49 : decode cX10_feed 49 = .ok (.getfield 13, 3) := by decide +kernel
theorem dX10_feed_52 : decode cX10_feed 52 = .ok (.iload 5, 2) := by decide +kernel
theorem dX10_feed_54 : decode cX10_feed 54 = .ok (.invokevirtual 76, 3) := by decide +kernel
theorem dX10_feed_57 : decode cX10_feed 57 = .ok (.aload_n 0, 1) := by decide +kernel
theorem dX10_feed_58 : decode cX10_feed 58 = .ok (.getfield 13, 3) := by decide +kernel
theorem dX10_feed_61 : decode cX10_feed 61 = .ok (.getfield 72, 3) := by decide +kernel
theorem dX10_feed_64 : decode cX10_feed 64 = .ok (.ireturn, 1) := by decide +kernel
theorem dX10_end_0 : decode cX10_end 0 = .ok (.aload_n 0, 1) := by decide +kernel
theorem dX10_end_1 : decode cX10_end 1 = .ok (.getfield 13, 3) := by decide +kernel
theorem dX10_end_4 : decode cX10_end 4 = .ok (.iload_n 1, 1) := by decide +kernel
theorem dX10_end_5 : decode cX10_end 5 = .ok (.invokevirtual 80, 3) := by decide +kernel
theorem dX10_end_8 : decode cX10_end 8 = .ok (.ireturn, 1) := by decide +kernel
theorem dX10_fault_0 : decode cX10_fault 0 = .ok (.iload_n 1, 1) := by decide +kernel
theorem dX10_fault_1 : decode cX10_fault 1 = .ok (.ifCond .ne 15, 3) := by decide +kernel
theorem dX10_fault_4 : decode cX10_fault 4 = .ok (.aload_n 0, 1) := by decide +kernel
theorem dX10_fault_5 : decode cX10_fault 5 = .ok (.getfield 26, 3) := by decide +kernel
theorem dX10_fault_8 : decode cX10_fault 8 = .ok (.aload_n 0, 1) := by decide +kernel
theorem dX10_fault_9 : decode cX10_fault 9 = .ok (.getfield 13, 3) := by decide +kernel
theorem dX10_fault_12 : decode cX10_fault 12 = .ok (.invokevirtual 84, 3) := by decide +kernel
theorem dX10_fault_15 : decode cX10_fault 15 = .ok (.ireturn, 1) := by decide +kernel
theorem dX10_fault_16 : decode cX10_fault 16 = .ok (.iload_n 1, 1) := by decide +kernel
theorem dX10_fault_17 : decode cX10_fault 17 = .ok (.iconst 1, 1) := by decide +kernel
theorem dX10_fault_18 : decode cX10_fault 18 = .ok (.if_icmp .ne 17, 3) := by decide +kernel
theorem dX10_fault_21 : decode cX10_fault 21 = .ok (.aload_n 0, 1) := by decide +kernel
theorem dX10_fault_22 : decode cX10_fault 22 = .ok (.getfield 36, 3) := by decide +kernel
theorem dX10_fault_25 : decode cX10_fault 25 = .ok (.aload_n 0, 1) := by decide +kernel
theorem dX10_fault_26 : decode cX10_fault 26 = .ok (.getfield 13, 3) := by decide +kernel
theorem dX10_fault_29 : decode cX10_fault 29 = .ok (.invokevirtual 88, 3) := by decide +kernel
theorem dX10_fault_32 : decode cX10_fault 32 = .ok (.goto 5, 3) := by decide +kernel
theorem dX10_fault_35 : decode cX10_fault 35 = .ok (.ldc 89, 2) := by decide +kernel
theorem dX10_fault_37 : decode cX10_fault 37 = .ok (.ireturn, 1) := by decide +kernel
theorem dX10_town_0 : decode cX10_town 0 = .ok (.aload_n 0, 1) := by decide +kernel
theorem dX10_town_1 : decode cX10_town 1 = .ok (.getfield 26, 3) := by decide +kernel
theorem dX10_town_4 : decode cX10_town 4 = .ok (.aload_n 0, 1) := by decide +kernel
theorem dX10_town_5 : decode cX10_town 5 = .ok (.getfield 13, 3) := by decide +kernel
theorem dX10_town_8 : decode cX10_town 8 = .ok (.invokevirtual 84, 3) := by decide +kernel
theorem dX10_town_11 : decode cX10_town 11 = .ok (.iconst (-1), 1) := by decide +kernel
theorem dX10_town_12 : decode cX10_town 12 = .ok (.if_icmp .eq 5, 3) := by decide +kernel
theorem dX10_town_15 : decode cX10_town 15 = .ok (.iconst (-1), 1) := by decide +kernel
theorem dX10_town_16 : decode cX10_town 16 = .ok (.ireturn, 1) := by decide +kernel
theorem dX10_town_17 : decode cX10_town 17 = .ok (.aload_n 0, 1) := by decide +kernel
theorem dX10_town_18 : decode cX10_town 18 = .ok (.getfield 22, 3) := by decide +kernel
theorem dX10_town_21 : decode cX10_town 21 = .ok (.aload_n 0, 1) := by decide +kernel
theorem dX10_town_22 : decode cX10_town 22 = .ok (.getfield 26, 3) := by decide +kernel
theorem dX10_town_25 : decode cX10_town 25 = .ok (.invokevirtual 90, 3) := by decide +kernel
theorem dX10_town_28 : decode cX10_town 28 = .ok (.aload_n 0, 1) := by decide +kernel
theorem dX10_town_29 : decode cX10_town 29 = .ok (.getfield 44, 3) := by decide +kernel
theorem dX10_town_32 : decode cX10_town 32 = .ok (.invokevirtual 94, 3) := by decide +kernel
theorem dX10_town_35 : decode cX10_town 35 = .ok (.iconst 0, 1) := by decide +kernel
theorem dX10_town_36 : decode cX10_town 36 = .ok (.istore_n 1, 1) := by decide +kernel
theorem dX10_town_37 : decode cX10_town 37 = .ok (.iload_n 1, 1) := by decide +kernel
theorem dX10_town_38 : decode cX10_town 38 = .ok (.iconst 3, 1) := by decide +kernel
theorem dX10_town_39 : decode cX10_town 39 = .ok (.if_icmp .ge 16, 3) := by decide +kernel
theorem dX10_town_42 : decode cX10_town 42 = .ok (.aload_n 0, 1) := by decide +kernel
theorem dX10_town_43 : decode cX10_town 43 = .ok (.getfield 52, 3) := by decide +kernel
theorem dX10_town_46 : decode cX10_town 46 = .ok (.iload_n 1, 1) := by decide +kernel
theorem dX10_town_47 : decode cX10_town 47 = .ok (.iconst 0, 1) := by decide +kernel
theorem dX10_town_48 : decode cX10_town 48 = .ok (.bastore, 1) := by decide +kernel
theorem dX10_town_49 : decode cX10_town 49 = .ok (.iinc 1 1, 3) := by decide +kernel
theorem dX10_town_52 : decode cX10_town 52 = .ok (.goto (-15), 3) := by decide +kernel
theorem dX10_town_55 : decode cX10_town 55 = .ok (.aload_n 0, 1) := by decide +kernel
theorem dX10_town_56 : decode cX10_town 56 = .ok (.getfield 13, 3) := by decide +kernel
theorem dX10_town_59 : decode cX10_town 59 = .ok (.iconst 0, 1) := by decide +kernel
theorem dX10_town_60 : decode cX10_town 60 = .ok (.invokevirtual 80, 3) := by decide +kernel
theorem dX10_town_63 : decode cX10_town 63 = .ok (.pop, 1) := by decide +kernel
theorem dX10_town_64 : decode cX10_town 64 = .ok (.aload_n 0, 1) := by decide +kernel
theorem dX10_town_65 : decode cX10_town 65 = .ok (.getfield 22, 3) := by decide +kernel
theorem dX10_town_68 : decode cX10_town 68 = .ok (.getfield 97, 3) := by decide +kernel
theorem dX10_town_71 : decode cX10_town 71 = .ok (.ireturn, 1) := by decide +kernel
theorem dX10_laws_0 : decode cX10_laws 0 = .ok (.aload_n 0, 1) := by decide +kernel
theorem dX10_laws_1 : decode cX10_laws 1 = .ok (.getfield 36, 3) := by decide +kernel
theorem dX10_laws_4 : decode cX10_laws 4 = .ok (.aload_n 0, 1) := by decide +kernel
theorem dX10_laws_5 : decode cX10_laws 5 = .ok (.getfield 13, 3) := by decide +kernel
theorem dX10_laws_8 : decode cX10_laws 8 = .ok (.invokevirtual 88, 3) := by decide +kernel
theorem dX10_laws_11 : decode cX10_laws 11 = .ok (.iconst (-1), 1) := by decide +kernel
theorem dX10_laws_12 : decode cX10_laws 12 = .ok (.if_icmp .eq 5, 3) := by decide +kernel
theorem dX10_laws_15 : decode cX10_laws 15 = .ok (.iconst (-1), 1) := by decide +kernel
theorem dX10_laws_16 : decode cX10_laws 16 = .ok (.ireturn, 1) := by decide +kernel
theorem dX10_laws_17 : decode cX10_laws 17 = .ok (.aload_n 0, 1) := by decide +kernel
theorem dX10_laws_18 : decode cX10_laws 18 = .ok (.getfield 32, 3) := by decide +kernel
theorem dX10_laws_21 : decode cX10_laws 21 = .ok (.aload_n 0, 1) := by decide +kernel
theorem dX10_laws_22 : decode cX10_laws 22 = .ok (.getfield 36, 3) := by decide +kernel
theorem dX10_laws_25 : decode cX10_laws 25 = .ok (.invokevirtual 100, 3) := by decide +kernel
theorem dX10_laws_28 : decode cX10_laws 28 = .ok (.aload_n 0, 1) := by decide +kernel
theorem dX10_laws_29 : decode cX10_laws 29 = .ok (.getfield 13, 3) := by decide +kernel
theorem dX10_laws_32 : decode cX10_laws 32 = .ok (.iconst 0, 1) := by decide +kernel
theorem dX10_laws_33 : decode cX10_laws 33 = .ok (.invokevirtual 80, 3) := by decide +kernel
theorem dX10_laws_36 : decode cX10_laws 36 = .ok (.pop, 1) := by decide +kernel
theorem dX10_laws_37 : decode cX10_laws 37 = .ok (.aload_n 0, 1) := by decide +kernel
theorem dX10_laws_38 : decode cX10_laws 38 = .ok (.getfield 32, 3) := by decide +kernel
theorem dX10_laws_41 : decode cX10_laws 41 = .ok (.getfield 103, 3) := by decide +kernel
theorem dX10_laws_44 : decode cX10_laws 44 = .ok (.ireturn, 1) := by decide +kernel
theorem dX10_counter_0 : decode cX10_counter 0 = .ok (.aload_n 0, 1) := by decide +kernel
theorem dX10_counter_1 : decode cX10_counter 1 = .ok (.getfield 44, 3) := by decide +kernel
theorem dX10_counter_4 : decode cX10_counter 4 = .ok (.iload_n 1, 1) := by decide +kernel
theorem dX10_counter_5 : decode cX10_counter 5 = .ok (.invokevirtual 106, 3) := by decide +kernel
theorem dX10_counter_8 : decode cX10_counter 8 = .ok (.astore_n 3, 1) := by decide +kernel
theorem dX10_counter_9 : decode cX10_counter 9 = .ok (.aload_n 3, 1) := by decide +kernel
theorem dX10_counter_10 : decode cX10_counter 10 = .ok (.ifnonnull 5, 3) := by decide +kernel
theorem dX10_counter_13 : decode cX10_counter 13 = .ok (.iconst (-1), 1) := by decide +kernel
theorem dX10_counter_14 : decode cX10_counter 14 = .ok (.ireturn, 1) := by decide +kernel
theorem dX10_counter_15 : decode cX10_counter 15 = .ok (.iload_n 2, 1) := by decide +kernel
theorem dX10_counter_16 : decode cX10_counter 16 = .ok (.tableswitch 71 0 4 #[36, 46, 56, 61, 66], 36) := by decide +kernel
theorem dX10_counter_52 : decode cX10_counter 52 = .ok (.aload_n 0, 1) := by decide +kernel
theorem dX10_counter_53 : decode cX10_counter 53 = .ok (.getfield 22, 3) := by decide +kernel
theorem dX10_counter_56 : decode cX10_counter 56 = .ok (.iload_n 1, 1) := by decide +kernel
theorem dX10_counter_57 : decode cX10_counter 57 = .ok (.iconst 0, 1) := by decide +kernel
theorem dX10_counter_58 : decode cX10_counter 58 = .ok (.invokevirtual 110, 3) := by decide +kernel
theorem dX10_counter_61 : decode cX10_counter 61 = .ok (.ireturn, 1) := by decide +kernel
theorem dX10_counter_62 : decode cX10_counter 62 = .ok (.aload_n 0, 1) := by decide +kernel
theorem dX10_counter_63 : decode cX10_counter 63 = .ok (.getfield 22, 3) := by decide +kernel
theorem dX10_counter_66 : decode cX10_counter 66 = .ok (.iload_n 1, 1) := by decide +kernel
theorem dX10_counter_67 : decode cX10_counter 67 = .ok (.iconst 1, 1) := by decide +kernel
theorem dX10_counter_68 : decode cX10_counter 68 = .ok (.invokevirtual 110, 3) := by decide +kernel
theorem dX10_counter_71 : decode cX10_counter 71 = .ok (.ireturn, 1) := by decide +kernel
theorem dX10_counter_72 : decode cX10_counter 72 = .ok (.aload_n 3, 1) := by decide +kernel
theorem dX10_counter_73 : decode cX10_counter 73 = .ok (.getfield 114, 3) := by decide +kernel
theorem dX10_counter_76 : decode cX10_counter 76 = .ok (.ireturn, 1) := by decide +kernel
theorem dX10_counter_77 : decode cX10_counter 77 = .ok (.aload_n 3, 1) := by decide +kernel
theorem dX10_counter_78 : decode cX10_counter 78 = .ok (.getfield 119, 3) := by decide +kernel
theorem dX10_counter_81 : decode cX10_counter 81 = .ok (.ireturn, 1) := by decide +kernel
theorem dX10_counter_82 : decode cX10_counter 82 = .ok (.aload_n 3, 1) := by decide +kernel
theorem dX10_counter_83 : decode cX10_counter 83 = .ok (.getfield 122, 3) := by decide +kernel
theorem dX10_counter_86 : decode cX10_counter 86 = .ok (.ireturn, 1) := by decide +kernel
theorem dX10_counter_87 : decode cX10_counter 87 = .ok (.iconst (-1), 1) := by decide +kernel
theorem dX10_counter_88 : decode cX10_counter 88 = .ok (.ireturn, 1) := by decide +kernel
theorem dX10_sort_0 : decode cX10_sort 0 = .ok (.aload_n 0, 1) := by decide +kernel
theorem dX10_sort_1 : decode cX10_sort 1 = .ok (.getfield 22, 3) := by decide +kernel
theorem dX10_sort_4 : decode cX10_sort 4 = .ok (.iload_n 1, 1) := by decide +kernel
theorem dX10_sort_5 : decode cX10_sort 5 = .ok (.invokevirtual 125, 3) := by decide +kernel
theorem dX10_sort_8 : decode cX10_sort 8 = .ok (.ifCond .ne 6, 3) := by decide +kernel
theorem dX10_sort_11 : decode cX10_sort 11 = .ok (.ldc 89, 2) := by decide +kernel
theorem dX10_sort_13 : decode cX10_sort 13 = .ok (.ireturn, 1) := by decide +kernel
theorem dX10_sort_14 : decode cX10_sort 14 = .ok (.iload_n 2, 1) := by decide +kernel
theorem dX10_sort_15 : decode cX10_sort 15 = .ok (.ifCond .lt 19, 3) := by decide +kernel
theorem dX10_sort_18 : decode cX10_sort 18 = .ok (.iload_n 2, 1) := by decide +kernel
theorem dX10_sort_19 : decode cX10_sort 19 = .ok (.bipush 6, 2) := by decide +kernel
theorem dX10_sort_21 : decode cX10_sort 21 = .ok (.if_icmp .ge 13, 3) := by decide +kernel
theorem dX10_sort_24 : decode cX10_sort 24 = .ok (.aload_n 0, 1) := by decide +kernel
theorem dX10_sort_25 : decode cX10_sort 25 = .ok (.getfield 22, 3) := by decide +kernel
theorem dX10_sort_28 : decode cX10_sort 28 = .ok (.iload_n 1, 1) := by decide +kernel
theorem dX10_sort_29 : decode cX10_sort 29 = .ok (.iload_n 2, 1) := by decide +kernel
theorem dX10_sort_30 : decode cX10_sort 30 = .ok (.invokevirtual 128, 3) := by decide +kernel
theorem dX10_sort_33 : decode cX10_sort 33 = .ok (.ireturn, 1) := by decide +kernel
theorem dX10_sort_34 : decode cX10_sort 34 = .ok (.iload_n 2, 1) := by decide +kernel
theorem dX10_sort_35 : decode cX10_sort 35 = .ok (.bipush 10, 2) := by decide +kernel
theorem dX10_sort_37 : decode cX10_sort 37 = .ok (.if_icmp .lt 9, 3) := by decide +kernel
theorem dX10_sort_40 : decode cX10_sort 40 = .ok (.iload_n 2, 1) := by decide +kernel
theorem dX10_sort_41 : decode cX10_sort 41 = .ok (.bipush 17, 2) := by decide +kernel
theorem dX10_sort_43 : decode cX10_sort 43 = .ok (.if_icmp .le 6, 3) := by decide +kernel
theorem dX10_sort_46 : decode cX10_sort 46 = .ok (.ldc 89, 2) := by decide +kernel
theorem dX10_sort_48 : decode cX10_sort 48 = .ok (.ireturn, 1) := by decide +kernel
theorem dX10_sort_49 : decode cX10_sort 49 = .ok (.iload_n 2, 1) := by decide +kernel
theorem dX10_sort_50 : decode cX10_sort 50 = .ok (.bipush 10, 2) := by decide +kernel
theorem dX10_sort_52 : decode cX10_sort 52 = .ok (.isub, 1) := by decide +kernel
theorem dX10_sort_53 : decode cX10_sort 53 = .ok (.istore_n 3, 1) := by decide +kernel
theorem dX10_sort_54 : decode cX10_sort 54 = .ok (.iload_n 3, 1) := by decide +kernel
theorem dX10_sort_55 : decode cX10_sort 55 = .ok (.bipush 7, 2) := by decide +kernel
theorem dX10_sort_57 : decode cX10_sort 57 = .ok (.if_icmp .ne 14, 3) := by decide +kernel
theorem dX10_sort_60 : decode cX10_sort 60 = .ok (.aload_n 0, 1) := by decide +kernel
theorem dX10_sort_61 : decode cX10_sort 61 = .ok (.getfield 44, 3) := by decide +kernel
theorem dX10_sort_64 : decode cX10_sort 64 = .ok (.iload_n 1, 1) := by decide +kernel
theorem dX10_sort_65 : decode cX10_sort 65 = .ok (.invokevirtual 131, 3) := by decide +kernel
theorem dX10_sort_68 : decode cX10_sort 68 = .ok (.goto 12, 3) := by decide +kernel
theorem dX10_sort_71 : decode cX10_sort 71 = .ok (.aload_n 0, 1) := by decide +kernel
theorem dX10_sort_72 : decode cX10_sort 72 = .ok (.getfield 44, 3) := by decide +kernel
theorem dX10_sort_75 : decode cX10_sort 75 = .ok (.iload_n 1, 1) := by decide +kernel
theorem dX10_sort_76 : decode cX10_sort 76 = .ok (.iload_n 3, 1) := by decide +kernel
theorem dX10_sort_77 : decode cX10_sort 77 = .ok (.invokevirtual 135, 3) := by decide +kernel
theorem dX10_sort_80 : decode cX10_sort 80 = .ok (.ireturn, 1) := by decide +kernel
theorem dX10_seed_0 : decode cX10_seed 0 = .ok (.iload_n 1, 1) := by decide +kernel
theorem dX10_seed_1 : decode cX10_seed 1 = .ok (.ifCond .lt 9, 3) := by decide +kernel
theorem dX10_seed_4 : decode cX10_seed 4 = .ok (.iload_n 1, 1) := by decide +kernel
theorem dX10_seed_5 : decode cX10_seed 5 = .ok (.ldc 138, 2) := by decide +kernel
theorem dX10_seed_7 : decode cX10_seed 7 = .ok (.if_icmp .le 5, 3) := by decide +kernel
theorem dX10_seed_10 : decode cX10_seed 10 = .ok (.iconst 0, 1) := by decide +kernel
theorem dX10_seed_11 : decode cX10_seed 11 = .ok (.ireturn, 1) := by decide +kernel
theorem dX10_seed_12 : decode cX10_seed 12 = .ok (.aload_n 0, 1) := by decide +kernel
theorem dX10_seed_13 : decode cX10_seed 13 = .ok (.getfield 44, 3) := by decide +kernel
theorem dX10_seed_16 : decode cX10_seed 16 = .ok (.iload_n 1, 1) := by decide +kernel
theorem dX10_seed_17 : decode cX10_seed 17 = .ok (.putfield 139, 3) := by decide +kernel
theorem dX10_seed_20 : decode cX10_seed 20 = .ok (.iconst 1, 1) := by decide +kernel
theorem dX10_seed_21 : decode cX10_seed 21 = .ok (.ireturn, 1) := by decide +kernel
theorem dX10_come_0 : decode cX10_come 0 = .ok (.aload_n 0, 1) := by decide +kernel
theorem dX10_come_1 : decode cX10_come 1 = .ok (.getfield 22, 3) := by decide +kernel
theorem dX10_come_4 : decode cX10_come 4 = .ok (.iload_n 1, 1) := by decide +kernel
theorem dX10_come_5 : decode cX10_come 5 = .ok (.invokevirtual 125, 3) := by decide +kernel
theorem dX10_come_8 : decode cX10_come 8 = .ok (.ifCond .eq 31, 3) := by decide +kernel
theorem dX10_come_11 : decode cX10_come 11 = .ok (.aload_n 0, 1) := by decide +kernel
theorem dX10_come_12 : decode cX10_come 12 = .ok (.getfield 22, 3) := by decide +kernel
theorem dX10_come_15 : decode cX10_come 15 = .ok (.iload_n 2, 1) := by decide +kernel
theorem dX10_come_16 : decode cX10_come 16 = .ok (.invokevirtual 142, 3) := by decide +kernel
theorem dX10_come_19 : decode cX10_come 19 = .ok (.ifCond .eq 20, 3) := by decide +kernel
theorem dX10_come_22 : decode cX10_come 22 = .ok (.aload_n 0, 1) := by decide +kernel
theorem dX10_come_23 : decode cX10_come 23 = .ok (.getfield 44, 3) := by decide +kernel
theorem dX10_come_26 : decode cX10_come 26 = .ok (.getfield 145, 3) := by decide +kernel
theorem dX10_come_29 : decode cX10_come 29 = .ok (.aload_n 0, 1) := by decide +kernel
theorem dX10_come_30 : decode cX10_come 30 = .ok (.getfield 22, 3) := by decide +kernel
theorem dX10_come_33 : decode cX10_come 33 = .ok (.invokevirtual 148, 3) := by decide +kernel
theorem dX10_come_36 : decode cX10_come 36 = .ok (.if_icmp .lt 5, 3) := by decide +kernel
theorem dX10_come_39 : decode cX10_come 39 = .ok (.iconst (-1), 1) := by decide +kernel
theorem dX10_come_40 : decode cX10_come 40 = .ok (.ireturn, 1) := by decide +kernel
theorem dX10_come_41 : decode cX10_come 41 = .ok (.aload_n 0, 1) := by decide +kernel
theorem dX10_come_42 : decode cX10_come 42 = .ok (.getfield 44, 3) := by decide +kernel
theorem dX10_come_45 : decode cX10_come 45 = .ok (.iload_n 1, 1) := by decide +kernel
theorem dX10_come_46 : decode cX10_come 46 = .ok (.iload_n 2, 1) := by decide +kernel
theorem dX10_come_47 : decode cX10_come 47 = .ok (.iconst 1, 1) := by decide +kernel
theorem dX10_come_48 : decode cX10_come 48 = .ok (.invokevirtual 152, 3) := by decide +kernel
theorem dX10_come_51 : decode cX10_come 51 = .ok (.ireturn, 1) := by decide +kernel
theorem dX10_turn_0 : decode cX10_turn 0 = .ok (.aload_n 0, 1) := by decide +kernel
theorem dX10_turn_1 : decode cX10_turn 1 = .ok (.getfield 44, 3) := by decide +kernel
theorem dX10_turn_4 : decode cX10_turn 4 = .ok (.iload_n 1, 1) := by decide +kernel
theorem dX10_turn_5 : decode cX10_turn 5 = .ok (.invokevirtual 156, 3) := by decide +kernel
theorem dX10_turn_8 : decode cX10_turn 8 = .ok (.astore_n 2, 1) := by decide +kernel
theorem dX10_turn_9 : decode cX10_turn 9 = .ok (.aload_n 2, 1) := by decide +kernel
theorem dX10_turn_10 : decode cX10_turn 10 = .ok (.ifnull 10, 3) := by decide +kernel
theorem dX10_turn_13 : decode cX10_turn 13 = .ok (.aload_n 2, 1) := by decide +kernel
theorem dX10_turn_14 : decode cX10_turn 14 = .ok (.getfield 160, 3) := by decide +kernel
theorem dX10_turn_17 : decode cX10_turn 17 = .ok (.ifCond .eq 5, 3) := by decide +kernel
theorem dX10_turn_20 : decode cX10_turn 20 = .ok (.iconst 0, 1) := by decide +kernel
theorem dX10_turn_21 : decode cX10_turn 21 = .ok (.ireturn, 1) := by decide +kernel
theorem dX10_turn_22 : decode cX10_turn 22 = .ok (.aload_n 0, 1) := by decide +kernel
theorem dX10_turn_23 : decode cX10_turn 23 = .ok (.getfield 44, 3) := by decide +kernel
theorem dX10_turn_26 : decode cX10_turn 26 = .ok (.iload_n 1, 1) := by decide +kernel
theorem dX10_turn_27 : decode cX10_turn 27 = .ok (.aload_n 2, 1) := by decide +kernel
theorem dX10_turn_28 : decode cX10_turn 28 = .ok (.invokevirtual 165, 3) := by decide +kernel
theorem dX10_turn_31 : decode cX10_turn 31 = .ok (.iconst 1, 1) := by decide +kernel
theorem dX10_turn_32 : decode cX10_turn 32 = .ok (.ireturn, 1) := by decide +kernel
theorem dX10_leave_0 : decode cX10_leave 0 = .ok (.aload_n 0, 1) := by decide +kernel
theorem dX10_leave_1 : decode cX10_leave 1 = .ok (.getfield 44, 3) := by decide +kernel
theorem dX10_leave_4 : decode cX10_leave 4 = .ok (.iload_n 1, 1) := by decide +kernel
theorem dX10_leave_5 : decode cX10_leave 5 = .ok (.invokevirtual 156, 3) := by decide +kernel
theorem dX10_leave_8 : decode cX10_leave 8 = .ok (.astore_n 2, 1) := by decide +kernel
theorem dX10_leave_9 : decode cX10_leave 9 = .ok (.aload_n 2, 1) := by decide +kernel
theorem dX10_leave_10 : decode cX10_leave 10 = .ok (.ifnonnull 5, 3) := by decide +kernel
theorem dX10_leave_13 : decode cX10_leave 13 = .ok (.iconst 0, 1) := by decide +kernel
theorem dX10_leave_14 : decode cX10_leave 14 = .ok (.ireturn, 1) := by decide +kernel
theorem dX10_leave_15 : decode cX10_leave 15 = .ok (.aload_n 0, 1) := by decide +kernel
theorem dX10_leave_16 : decode cX10_leave 16 = .ok (.getfield 44, 3) := by decide +kernel
theorem dX10_leave_19 : decode cX10_leave 19 = .ok (.iload_n 1, 1) := by decide +kernel
theorem dX10_leave_20 : decode cX10_leave 20 = .ok (.aload_n 2, 1) := by decide +kernel
theorem dX10_leave_21 : decode cX10_leave 21 = .ok (.invokevirtual 169, 3) := by decide +kernel
theorem dX10_leave_24 : decode cX10_leave 24 = .ok (.iconst 1, 1) := by decide +kernel
theorem dX10_leave_25 : decode cX10_leave 25 = .ok (.ireturn, 1) := by decide +kernel
theorem dX10_person_0 : decode cX10_person 0 = .ok (.aload_n 0, 1) := by decide +kernel
theorem dX10_person_1 : decode cX10_person 1 = .ok (.getfield 44, 3) := by decide +kernel
theorem dX10_person_4 : decode cX10_person 4 = .ok (.iload_n 1, 1) := by decide +kernel
theorem dX10_person_5 : decode cX10_person 5 = .ok (.invokevirtual 156, 3) := by decide +kernel
theorem dX10_person_8 : decode cX10_person 8 = .ok (.astore_n 3, 1) := by decide +kernel
theorem dX10_person_9 : decode cX10_person 9 = .ok (.aload_n 3, 1) := by decide +kernel
theorem dX10_person_10 : decode cX10_person 10 = .ok (.ifnonnull 5, 3) := by decide +kernel
theorem dX10_person_13 : decode cX10_person 13 = .ok (.iconst (-1), 1) := by decide +kernel
theorem dX10_person_14 : decode cX10_person 14 = .ok (.ireturn, 1) := by decide +kernel
theorem dX10_person_15 : decode cX10_person 15 = .ok (.iload_n 2, 1) := by decide +kernel
theorem dX10_person_16 : decode cX10_person 16 = .ok (.bipush 6, 2) := by decide +kernel
theorem dX10_person_18 : decode cX10_person 18 = .ok (.if_icmp .ne 15, 3) := by decide +kernel
theorem dX10_person_21 : decode cX10_person 21 = .ok (.aload_n 0, 1) := by decide +kernel
theorem dX10_person_22 : decode cX10_person 22 = .ok (.getfield 44, 3) := by decide +kernel
theorem dX10_person_25 : decode cX10_person 25 = .ok (.iload_n 1, 1) := by decide +kernel
theorem dX10_person_26 : decode cX10_person 26 = .ok (.aload_n 3, 1) := by decide +kernel
theorem dX10_person_27 : decode cX10_person 27 = .ok (.invokevirtual 172, 3) := by decide +kernel
theorem dX10_person_30 : decode cX10_person 30 = .ok (.goto 8, 3) := by decide +kernel
theorem dX10_person_33 : decode cX10_person 33 = .ok (.aload_n 3, 1) := by decide +kernel
theorem dX10_person_34 : decode cX10_person 34 = .ok (.iload_n 2, 1) := by decide +kernel
theorem dX10_person_35 : decode cX10_person 35 = .ok (.invokevirtual 176, 3) := by decide +kernel
theorem dX10_person_38 : decode cX10_person 38 = .ok (.ireturn, 1) := by decide +kernel
theorem dX10_next_0 : decode cX10_next 0 = .ok (.aload_n 0, 1) := by decide +kernel
theorem dX10_next_1 : decode cX10_next 1 = .ok (.getfield 44, 3) := by decide +kernel
theorem dX10_next_4 : decode cX10_next 4 = .ok (.iload_n 1, 1) := by decide +kernel
theorem dX10_next_5 : decode cX10_next 5 = .ok (.invokevirtual 106, 3) := by decide +kernel
theorem dX10_next_8 : decode cX10_next 8 = .ok (.astore_n 3, 1) := by decide +kernel
theorem dX10_next_9 : decode cX10_next 9 = .ok (.aload_n 3, 1) := by decide +kernel
theorem dX10_next_10 : decode cX10_next 10 = .ok (.ifnull 10, 3) := by decide +kernel
theorem dX10_next_13 : decode cX10_next 13 = .ok (.iload_n 2, 1) := by decide +kernel
theorem dX10_next_14 : decode cX10_next 14 = .ok (.invokestatic 179, 3) := by decide +kernel
theorem dX10_next_17 : decode cX10_next 17 = .ok (.ifCond .ne 5, 3) := by decide +kernel
theorem dX10_next_20 : decode cX10_next 20 = .ok (.iconst (-1), 1) := by decide +kernel
theorem dX10_next_21 : decode cX10_next 21 = .ok (.ireturn, 1) := by decide +kernel
theorem dX10_next_22 : decode cX10_next 22 = .ok (.aload_n 3, 1) := by decide +kernel
theorem dX10_next_23 : decode cX10_next 23 = .ok (.aload_n 0, 1) := by decide +kernel
theorem dX10_next_24 : decode cX10_next 24 = .ok (.getfield 44, 3) := by decide +kernel
theorem dX10_next_27 : decode cX10_next 27 = .ok (.aload_n 3, 1) := by decide +kernel
theorem dX10_next_28 : decode cX10_next 28 = .ok (.iload_n 2, 1) := by decide +kernel
theorem dX10_next_29 : decode cX10_next 29 = .ok (.invokevirtual 182, 3) := by decide +kernel
theorem dX10_next_32 : decode cX10_next 32 = .ok (.invokevirtual 186, 3) := by decide +kernel
theorem dX10_next_35 : decode cX10_next 35 = .ok (.ireturn, 1) := by decide +kernel
theorem dX10_inside_0 : decode cX10_inside 0 = .ok (.aload_n 0, 1) := by decide +kernel
theorem dX10_inside_1 : decode cX10_inside 1 = .ok (.getfield 44, 3) := by decide +kernel
theorem dX10_inside_4 : decode cX10_inside 4 = .ok (.iload_n 1, 1) := by decide +kernel
theorem dX10_inside_5 : decode cX10_inside 5 = .ok (.invokevirtual 106, 3) := by decide +kernel
theorem dX10_inside_8 : decode cX10_inside 8 = .ok (.astore_n 3, 1) := by decide +kernel
theorem dX10_inside_9 : decode cX10_inside 9 = .ok (.aload_n 3, 1) := by decide +kernel
theorem dX10_inside_10 : decode cX10_inside 10 = .ok (.ifnonnull 7, 3) := by decide +kernel
theorem dX10_inside_13 : decode cX10_inside 13 = .ok (.iconst (-1), 1) := by decide +kernel
theorem dX10_inside_14 : decode cX10_inside 14 = .ok (.goto 8, 3) := by decide +kernel
theorem dX10_inside_17 : decode cX10_inside 17 = .ok (.aload_n 3, 1) := by decide +kernel
theorem dX10_inside_18 : decode cX10_inside 18 = .ok (.iload_n 2, 1) := by decide +kernel
theorem dX10_inside_19 : decode cX10_inside 19 = .ok (.invokevirtual 186, 3) := by decide +kernel
theorem dX10_inside_22 : decode cX10_inside 22 = .ok (.ireturn, 1) := by decide +kernel
theorem dX10_go_0 : decode cX10_go 0 = .ok (.aload_n 0, 1) := by decide +kernel
theorem dX10_go_1 : decode cX10_go 1 = .ok (.getfield 22, 3) := by decide +kernel
theorem dX10_go_4 : decode cX10_go 4 = .ok (.invokevirtual 189, 3) := by decide +kernel
theorem dX10_go_7 : decode cX10_go 7 = .ok (.ifCond .eq 15, 3) := by decide +kernel
theorem dX10_go_10 : decode cX10_go 10 = .ok (.iload_n 1, 1) := by decide +kernel
theorem dX10_go_11 : decode cX10_go 11 = .ok (.iconst 1, 1) := by decide +kernel
theorem dX10_go_12 : decode cX10_go 12 = .ok (.if_icmp .lt 10, 3) := by decide +kernel
theorem dX10_go_15 : decode cX10_go 15 = .ok (.iload_n 1, 1) := by decide +kernel
theorem dX10_go_16 : decode cX10_go 16 = .ok (.sipush 240, 3) := by decide +kernel
theorem dX10_go_19 : decode cX10_go 19 = .ok (.if_icmp .le 5, 3) := by decide +kernel
theorem dX10_go_22 : decode cX10_go 22 = .ok (.iconst (-1), 1) := by decide +kernel
theorem dX10_go_23 : decode cX10_go 23 = .ok (.ireturn, 1) := by decide +kernel
theorem dX10_go_24 : decode cX10_go 24 = .ok (.iconst 0, 1) := by decide +kernel
theorem dX10_go_25 : decode cX10_go 25 = .ok (.istore_n 2, 1) := by decide +kernel
theorem dX10_go_26 : decode cX10_go 26 = .ok (.iload_n 2, 1) := by decide +kernel
theorem dX10_go_27 : decode cX10_go 27 = .ok (.iload_n 1, 1) := by decide +kernel
theorem dX10_go_28 : decode cX10_go 28 = .ok (.if_icmp .ge 33, 3) := by decide +kernel
theorem dX10_go_31 : decode cX10_go 31 = .ok (.aload_n 0, 1) := by decide +kernel
theorem dX10_go_32 : decode cX10_go 32 = .ok (.getfield 44, 3) := by decide +kernel
theorem dX10_go_35 : decode cX10_go 35 = .ok (.getfield 145, 3) := by decide +kernel
theorem dX10_go_38 : decode cX10_go 38 = .ok (.aload_n 0, 1) := by decide +kernel
theorem dX10_go_39 : decode cX10_go 39 = .ok (.getfield 22, 3) := by decide +kernel
theorem dX10_go_42 : decode cX10_go 42 = .ok (.invokevirtual 148, 3) := by decide +kernel
theorem dX10_go_45 : decode cX10_go 45 = .ok (.if_icmp .ge 16, 3) := by decide +kernel
theorem dX10_go_48 : decode cX10_go 48 = .ok (.aload_n 0, 1) := by decide +kernel
theorem dX10_go_49 : decode cX10_go 49 = .ok (.getfield 44, 3) := by decide +kernel
theorem dX10_go_52 : decode cX10_go 52 = .ok (.invokevirtual 193, 3) := by decide +kernel
theorem dX10_go_55 : decode cX10_go 55 = .ok (.iinc 2 1, 3) := by decide +kernel
theorem dX10_go_58 : decode cX10_go 58 = .ok (.goto (-32), 3) := by decide +kernel
theorem dX10_go_61 : decode cX10_go 61 = .ok (.aload_n 0, 1) := by decide +kernel
theorem dX10_go_62 : decode cX10_go 62 = .ok (.getfield 44, 3) := by decide +kernel
theorem dX10_go_65 : decode cX10_go 65 = .ok (.getfield 145, 3) := by decide +kernel
theorem dX10_go_68 : decode cX10_go 68 = .ok (.ireturn, 1) := by decide +kernel
theorem dX10_comer_0 : decode cX10_comer 0 = .ok (.aload_n 0, 1) := by decide +kernel
theorem dX10_comer_1 : decode cX10_comer 1 = .ok (.getfield 61, 3) := by decide +kernel
theorem dX10_comer_4 : decode cX10_comer 4 = .ok (.iload_n 1, 1) := by decide +kernel
theorem dX10_comer_5 : decode cX10_comer 5 = .ok (.iload_n 2, 1) := by decide +kernel
theorem dX10_comer_6 : decode cX10_comer 6 = .ok (.invokevirtual 196, 3) := by decide +kernel
theorem dX10_comer_9 : decode cX10_comer 9 = .ok (.ireturn, 1) := by decide +kernel
theorem dX10_clear_0 : decode cX10_clear 0 = .ok (.aload_n 0, 1) := by decide +kernel
theorem dX10_clear_1 : decode cX10_clear 1 = .ok (.getfield 61, 3) := by decide +kernel
theorem dX10_clear_4 : decode cX10_clear 4 = .ok (.getfield 198, 3) := by decide +kernel
theorem dX10_clear_7 : decode cX10_clear 7 = .ok (.istore_n 1, 1) := by decide +kernel
theorem dX10_clear_8 : decode cX10_clear 8 = .ok (.aload_n 0, 1) := by decide +kernel
theorem dX10_clear_9 : decode cX10_clear 9 = .ok (.getfield 61, 3) := by decide +kernel
theorem dX10_clear_12 : decode cX10_clear 12 = .ok (.iconst 0, 1) := by decide +kernel
theorem dX10_clear_13 : decode cX10_clear 13 = .ok (.putfield 198, 3) := by decide +kernel
theorem dX10_clear_16 : decode cX10_clear 16 = .ok (.iload_n 1, 1) := by decide +kernel
theorem dX10_clear_17 : decode cX10_clear 17 = .ok (.ireturn, 1) := by decide +kernel
theorem dX10_waits_0 : decode cX10_waits 0 = .ok (.aload_n 0, 1) := by decide +kernel
theorem dX10_waits_1 : decode cX10_waits 1 = .ok (.getfield 61, 3) := by decide +kernel
theorem dX10_waits_4 : decode cX10_waits 4 = .ok (.getfield 198, 3) := by decide +kernel
theorem dX10_waits_7 : decode cX10_waits 7 = .ok (.ifCond .eq 10, 3) := by decide +kernel
theorem dX10_waits_10 : decode cX10_waits 10 = .ok (.iload_n 1, 1) := by decide +kernel
theorem dX10_waits_11 : decode cX10_waits 11 = .ok (.invokestatic 179, 3) := by decide +kernel
theorem dX10_waits_14 : decode cX10_waits 14 = .ok (.ifCond .ne 5, 3) := by decide +kernel
theorem dX10_waits_17 : decode cX10_waits 17 = .ok (.iconst (-1), 1) := by decide +kernel
theorem dX10_waits_18 : decode cX10_waits 18 = .ok (.ireturn, 1) := by decide +kernel
theorem dX10_waits_19 : decode cX10_waits 19 = .ok (.aload_n 0, 1) := by decide +kernel
theorem dX10_waits_20 : decode cX10_waits 20 = .ok (.getfield 61, 3) := by decide +kernel
theorem dX10_waits_23 : decode cX10_waits 23 = .ok (.iload_n 1, 1) := by decide +kernel
theorem dX10_waits_24 : decode cX10_waits 24 = .ok (.invokevirtual 199, 3) := by decide +kernel
theorem dX10_waits_27 : decode cX10_waits 27 = .ok (.iload_n 3, 1) := by decide +kernel
theorem dX10_waits_28 : decode cX10_waits 28 = .ok (.tableswitch 78 0 4 #[36, 45, 54, 62, 70], 36) := by decide +kernel
theorem dX10_waits_64 : decode cX10_waits 64 = .ok (.aload_n 0, 1) := by decide +kernel
theorem dX10_waits_65 : decode cX10_waits 65 = .ok (.getfield 61, 3) := by decide +kernel
theorem dX10_waits_68 : decode cX10_waits 68 = .ok (.iload_n 2, 1) := by decide +kernel
theorem dX10_waits_69 : decode cX10_waits 69 = .ok (.invokevirtual 202, 3) := by decide +kernel
