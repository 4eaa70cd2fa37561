theorem dX0_init_0 : decode cX0_init 0 = .ok (.aload_n 0, 1) := by decide +kernel
theorem dX0_init_1 : decode cX0_init 1 = .ok (.invokespecial 3, 3) := by decide +kernel
theorem dX0_init_4 : decode cX0_init 4 = .ok (.aload_n 0, 1) := by decide +kernel
theorem dX0_init_5 : decode cX0_init 5 = .ok (.bipush 100, 2) := by decide +kernel
theorem dX0_init_7 : decode cX0_init 7 = .ok (.newarray .int, 2) := by decide +kernel
theorem dX0_init_9 : decode cX0_init 9 = .ok (.putfield 11, 3) := by decide +kernel
theorem dX0_init_12 : decode cX0_init 12 = .ok (.return_, 1) := by decide +kernel
theorem dX0_write_0 : decode cX0_write 0 = .ok (.aload_n 0, 1) := by decide +kernel
theorem dX0_write_1 : decode cX0_write 1 = .ok (.getfield 15, 3) := by decide +kernel
theorem dX0_write_4 : decode cX0_write 4 = .ok (.bipush 20, 2) := by decide +kernel
theorem dX0_write_6 : decode cX0_write 6 = .ok (.if_icmp .lt 24, 3) := by decide +kernel
theorem dX0_write_9 : decode cX0_write 9 = .ok (.aload_n 0, 1) := by decide +kernel
theorem dX0_write_10 : decode cX0_write 10 = .ok (.getfield 11, 3) := by decide +kernel
theorem dX0_write_13 : decode cX0_write 13 = .ok (.iconst 5, 1) := by decide +kernel
theorem dX0_write_14 : decode cX0_write 14 = .ok (.aload_n 0, 1) := by decide +kernel
theorem dX0_write_15 : decode cX0_write 15 = .ok (.getfield 11, 3) := by decide +kernel
theorem dX0_write_18 : decode cX0_write 18 = .ok (.iconst 0, 1) := by decide +kernel
theorem dX0_write_19 : decode cX0_write 19 = .ok (.bipush 95, 2) := by decide +kernel
theorem dX0_write_21 : decode cX0_write 21 = .ok (.invokestatic 19, 3) := by decide +kernel
theorem dX0_write_24 : decode cX0_write 24 = .ok (.aload_n 0, 1) := by decide +kernel
theorem dX0_write_25 : decode cX0_write 25 = .ok (.bipush 19, 2) := by decide +kernel
theorem dX0_write_27 : decode cX0_write 27 = .ok (.putfield 15, 3) := by decide +kernel
theorem dX0_write_30 : decode cX0_write 30 = .ok (.aload_n 0, 1) := by decide +kernel
theorem dX0_write_31 : decode cX0_write 31 = .ok (.getfield 15, 3) := by decide +kernel
theorem dX0_write_34 : decode cX0_write 34 = .ok (.iconst 0, 1) := by decide +kernel
theorem dX0_write_35 : decode cX0_write 35 = .ok (.invokestatic 25, 3) := by decide +kernel
theorem dX0_write_38 : decode cX0_write 38 = .ok (.iconst 5, 1) := by decide +kernel
theorem dX0_write_39 : decode cX0_write 39 = .ok (.imul, 1) := by decide +kernel
theorem dX0_write_40 : decode cX0_write 40 = .ok (.istore 6, 2) := by decide +kernel
theorem dX0_write_42 : decode cX0_write 42 = .ok (.aload_n 0, 1) := by decide +kernel
theorem dX0_write_43 : decode cX0_write 43 = .ok (.getfield 11, 3) := by decide +kernel
theorem dX0_write_46 : decode cX0_write 46 = .ok (.iload 6, 2) := by decide +kernel
theorem dX0_write_48 : decode cX0_write 48 = .ok (.iconst 0, 1) := by decide +kernel
theorem dX0_write_49 : decode cX0_write 49 = .ok (.iadd, 1) := by decide +kernel
theorem dX0_write_50 : decode cX0_write 50 = .ok (.iload_n 1, 1) := by decide +kernel
theorem dX0_write_51 : decode cX0_write 51 = .ok (.iastore, 1) := by decide +kernel
theorem dX0_write_52 : decode cX0_write 52 = .ok (.aload_n 0, 1) := by decide +kernel
theorem dX0_write_53 : decode cX0_write 53 = .ok (.getfield 11, 3) := by decide +kernel
theorem dX0_write_56 : decode cX0_write 56 = .ok (.iload 6, 2) := by decide +kernel
theorem dX0_write_58 : decode cX0_write 58 = .ok (.iconst 1, 1) := by decide +kernel
theorem dX0_write_59 : decode cX0_write 59 = .ok (.iadd, 1) := by decide +kernel
theorem dX0_write_60 : decode cX0_write 60 = .ok (.iload_n 2, 1) := by decide +kernel
theorem dX0_write_61 : decode cX0_write 61 = .ok (.iastore, 1) := by decide +kernel
theorem dX0_write_62 : decode cX0_write 62 = .ok (.aload_n 0, 1) := by decide +kernel
theorem dX0_write_63 : decode cX0_write 63 = .ok (.getfield 11, 3) := by decide +kernel
theorem dX0_write_66 : decode cX0_write 66 = .ok (.iload 6, 2) := by decide +kernel
theorem dX0_write_68 : decode cX0_write 68 = .ok (.iconst 2, 1) := by decide +kernel
theorem dX0_write_69 : decode cX0_write 69 = .ok (.iadd, 1) := by decide +kernel
theorem dX0_write_70 : decode cX0_write 70 = .ok (.iload_n 3, 1) := by decide +kernel
theorem dX0_write_71 : decode cX0_write 71 = .ok (.iastore, 1) := by decide +kernel
theorem dX0_write_72 : decode cX0_write 72 = .ok (.aload_n 0, 1) := by decide +kernel
theorem dX0_write_73 : decode cX0_write 73 = .ok (.getfield 11, 3) := by decide +kernel
theorem dX0_write_76 : decode cX0_write 76 = .ok (.iload 6, 2) := by decide +kernel
theorem dX0_write_78 : decode cX0_write 78 = .ok (.iconst 3, 1) := by decide +kernel
theorem dX0_write_79 : decode cX0_write 79 = .ok (.iadd, 1) := by decide +kernel
theorem dX0_write_80 : decode cX0_write 80 = .ok (.iload 4, 2) := by decide +kernel
theorem dX0_write_82 : decode cX0_write 82 = .ok (.iastore, 1) := by decide +kernel
theorem dX0_write_83 : decode cX0_write 83 = .ok (.aload_n 0, 1) := by decide +kernel
theorem dX0_write_84 : decode cX0_write 84 = .ok (.getfield 11, 3) := by decide +kernel
theorem dX0_write_87 : decode cX0_write 87 = .ok (.iload 6, 2) := by decide +kernel
theorem dX0_write_89 : decode cX0_write 89 = .ok (.iconst 4, 1) := by decide +kernel
theorem dX0_write_90 : decode cX0_write 90 = .ok (.iadd, 1) := by decide +kernel
theorem dX0_write_91 : decode cX0_write 91 = .ok (.iload 5, 2) := by decide +kernel
theorem dX0_write_93 : decode cX0_write 93 = .ok (.iastore, 1) := by decide +kernel
theorem dX0_write_94 : decode cX0_write 94 = .ok (.aload_n 0, 1) := by decide +kernel
theorem dX0_write_95 : decode cX0_write 95 = .ok (.dup, 1) := by decide +kernel
theorem dX0_write_96 : decode cX0_write 96 = .ok (.getfield 15, 3) := by decide +kernel
theorem dX0_write_99 : decode cX0_write 99 = .ok (.iconst 1, 1) := by decide +kernel
theorem dX0_write_100 : decode cX0_write 100 = .ok (.iadd, 1) := by decide +kernel
theorem dX0_write_101 : decode cX0_write 101 = .ok (.putfield 15, 3) := by decide +kernel
theorem dX0_write_104 : decode cX0_write 104 = .ok (.return_, 1) := by decide +kernel
theorem dX0_fact_0 : decode cX0_fact 0 = .ok (.iload_n 1, 1) := by decide +kernel
theorem dX0_fact_1 : decode cX0_fact 1 = .ok (.ifCond .lt 26, 3) := by decide +kernel
theorem dX0_fact_4 : decode cX0_fact 4 = .ok (.iload_n 1, 1) := by decide +kernel
theorem dX0_fact_5 : decode cX0_fact 5 = .ok (.aload_n 0, 1) := by decide +kernel
theorem dX0_fact_6 : decode cX0_fact 6 = .ok (.getfield 15, 3) := by decide +kernel
theorem dX0_fact_9 : decode cX0_fact 9 = .ok (.if_icmp .ge 18, 3) := by decide +kernel
theorem dX0_fact_12 : decode cX0_fact 12 = .ok (.iload_n 1, 1) := by decide +kernel
theorem dX0_fact_13 : decode cX0_fact 13 = .ok (.bipush 20, 2) := by decide +kernel
theorem dX0_fact_15 : decode cX0_fact 15 = .ok (.if_icmp .ge 12, 3) := by decide +kernel
theorem dX0_fact_18 : decode cX0_fact 18 = .ok (.iload_n 2, 1) := by decide +kernel
theorem dX0_fact_19 : decode cX0_fact 19 = .ok (.ifCond .lt 8, 3) := by decide +kernel
theorem dX0_fact_22 : decode cX0_fact 22 = .ok (.iload_n 2, 1) := by decide +kernel
theorem dX0_fact_23 : decode cX0_fact 23 = .ok (.iconst 5, 1) := by decide +kernel
theorem dX0_fact_24 : decode cX0_fact 24 = .ok (.if_icmp .lt 5, 3) := by decide +kernel
theorem dX0_fact_27 : decode cX0_fact 27 = .ok (.iconst (-1), 1) := by decide +kernel
theorem dX0_fact_28 : decode cX0_fact 28 = .ok (.ireturn, 1) := by decide +kernel
theorem dX0_fact_29 : decode cX0_fact 29 = .ok (.aload_n 0, 1) := by decide +kernel
theorem dX0_fact_30 : decode cX0_fact 30 = .ok (.getfield 11, 3) := by decide +kernel
theorem dX0_fact_33 : decode cX0_fact 33 = .ok (.iload_n 1, 1) := by decide +kernel
theorem dX0_fact_34 : decode cX0_fact 34 = .ok (.iconst 5, 1) := by decide +kernel
theorem dX0_fact_35 : decode cX0_fact 35 = .ok (.imul, 1) := by decide +kernel
theorem dX0_fact_36 : decode cX0_fact 36 = .ok (.iload_n 2, 1) := by decide +kernel
theorem dX0_fact_37 : decode cX0_fact 37 = .ok (.iadd, 1) := by decide +kernel
theorem dX0_fact_38 : decode cX0_fact 38 = .ok (.iaload, 1) := by decide +kernel
theorem dX0_fact_39 : decode cX0_fact 39 = .ok (.ireturn, 1) := by decide +kernel
theorem dX0_outOfOrder_0 : decode cX0_outOfOrder 0 = .ok (.iconst 0, 1) := by decide +kernel
theorem dX0_outOfOrder_1 : decode cX0_outOfOrder 1 = .ok (.istore_n 3, 1) := by decide +kernel
theorem dX0_outOfOrder_2 : decode cX0_outOfOrder 2 = .ok (.iconst 0, 1) := by decide +kernel
theorem dX0_outOfOrder_3 : decode cX0_outOfOrder 3 = .ok (.istore 4, 2) := by decide +kernel
theorem dX0_outOfOrder_5 : decode cX0_outOfOrder 5 = .ok (.iload 4, 2) := by decide +kernel
theorem dX0_outOfOrder_7 : decode cX0_outOfOrder 7 = .ok (.aload_n 0, 1) := by decide +kernel
theorem dX0_outOfOrder_8 : decode cX0_outOfOrder 8 = .ok (.getfield 15, 3) := by decide +kernel
theorem dX0_outOfOrder_11 : decode cX0_outOfOrder 11 = .ok (.if_icmp .ge 56, 3) := by decide +kernel
theorem dX0_outOfOrder_14 : decode cX0_outOfOrder 14 = .ok (.aload_n 0, 1) := by decide +kernel
theorem dX0_outOfOrder_15 : decode cX0_outOfOrder 15 = .ok (.iload 4, 2) := by decide +kernel
theorem dX0_outOfOrder_17 : decode cX0_outOfOrder 17 = .ok (.iconst 1, 1) := by decide +kernel
theorem dX0_outOfOrder_18 : decode cX0_outOfOrder 18 = .ok (.invokevirtual 31, 3) := by decide +kernel
theorem dX0_outOfOrder_21 : decode cX0_outOfOrder 21 = .ok (.iload_n 1, 1) := by decide +kernel
theorem dX0_outOfOrder_22 : decode cX0_outOfOrder 22 = .ok (.if_icmp .ne 7, 3) := by decide +kernel
theorem dX0_outOfOrder_25 : decode cX0_outOfOrder 25 = .ok (.iconst 1, 1) := by decide +kernel
theorem dX0_outOfOrder_26 : decode cX0_outOfOrder 26 = .ok (.goto 4, 3) := by decide +kernel
theorem dX0_outOfOrder_29 : decode cX0_outOfOrder 29 = .ok (.iconst 0, 1) := by decide +kernel
theorem dX0_outOfOrder_30 : decode cX0_outOfOrder 30 = .ok (.istore 5, 2) := by decide +kernel
theorem dX0_outOfOrder_32 : decode cX0_outOfOrder 32 = .ok (.iload 5, 2) := by decide +kernel
theorem dX0_outOfOrder_34 : decode cX0_outOfOrder 34 = .ok (.ifCond .eq 27, 3) := by decide +kernel
theorem dX0_outOfOrder_37 : decode cX0_outOfOrder 37 = .ok (.aload_n 0, 1) := by decide +kernel
theorem dX0_outOfOrder_38 : decode cX0_outOfOrder 38 = .ok (.iload 4, 2) := by decide +kernel
theorem dX0_outOfOrder_40 : decode cX0_outOfOrder 40 = .ok (.iconst 4, 1) := by decide +kernel
theorem dX0_outOfOrder_41 : decode cX0_outOfOrder 41 = .ok (.invokevirtual 31, 3) := by decide +kernel
theorem dX0_outOfOrder_44 : decode cX0_outOfOrder 44 = .ok (.iload_n 2, 1) := by decide +kernel
theorem dX0_outOfOrder_45 : decode cX0_outOfOrder 45 = .ok (.aload_n 0, 1) := by decide +kernel
theorem dX0_outOfOrder_46 : decode cX0_outOfOrder 46 = .ok (.iload 4, 2) := by decide +kernel
theorem dX0_outOfOrder_48 : decode cX0_outOfOrder 48 = .ok (.iconst 3, 1) := by decide +kernel
theorem dX0_outOfOrder_49 : decode cX0_outOfOrder 49 = .ok (.invokevirtual 31, 3) := by decide +kernel
theorem dX0_outOfOrder_52 : decode cX0_outOfOrder 52 = .ok (.invokestatic 34, 3) := by decide +kernel
theorem dX0_outOfOrder_55 : decode cX0_outOfOrder 55 = .ok (.if_icmp .eq 6, 3) := by decide +kernel
theorem dX0_outOfOrder_58 : decode cX0_outOfOrder 58 = .ok (.iinc 3 1, 3) := by decide +kernel
theorem dX0_outOfOrder_61 : decode cX0_outOfOrder 61 = .ok (.iinc 4 1, 3) := by decide +kernel
theorem dX0_outOfOrder_64 : decode cX0_outOfOrder 64 = .ok (.goto (-59), 3) := by decide +kernel
theorem dX0_outOfOrder_67 : decode cX0_outOfOrder 67 = .ok (.iload_n 3, 1) := by decide +kernel
theorem dX0_outOfOrder_68 : decode cX0_outOfOrder 68 = .ok (.ireturn, 1) := by decide +kernel
theorem dX0_takeOver_0 : decode cX0_takeOver 0 = .ok (.aload_n 1, 1) := by decide +kernel
theorem dX0_takeOver_1 : decode cX0_takeOver 1 = .ok (.getfield 11, 3) := by decide +kernel
theorem dX0_takeOver_4 : decode cX0_takeOver 4 = .ok (.iconst 0, 1) := by decide +kernel
theorem dX0_takeOver_5 : decode cX0_takeOver 5 = .ok (.aload_n 0, 1) := by decide +kernel
theorem dX0_takeOver_6 : decode cX0_takeOver 6 = .ok (.getfield 11, 3) := by decide +kernel
theorem dX0_takeOver_9 : decode cX0_takeOver 9 = .ok (.iconst 0, 1) := by decide +kernel
theorem dX0_takeOver_10 : decode cX0_takeOver 10 = .ok (.bipush 100, 2) := by decide +kernel
theorem dX0_takeOver_12 : decode cX0_takeOver 12 = .ok (.invokestatic 19, 3) := by decide +kernel
theorem dX0_takeOver_15 : decode cX0_takeOver 15 = .ok (.aload_n 0, 1) := by decide +kernel
theorem dX0_takeOver_16 : decode cX0_takeOver 16 = .ok (.aload_n 1, 1) := by decide +kernel
theorem dX0_takeOver_17 : decode cX0_takeOver 17 = .ok (.getfield 15, 3) := by decide +kernel
theorem dX0_takeOver_20 : decode cX0_takeOver 20 = .ok (.putfield 15, 3) := by decide +kernel
theorem dX0_takeOver_23 : decode cX0_takeOver 23 = .ok (.return_, 1) := by decide +kernel
theorem dX1_init_0 : decode cX1_init 0 = .ok (.aload_n 0, 1) := by decide +kernel
theorem dX1_init_1 : decode cX1_init 1 = .ok (.invokespecial 3, 3) := by decide +kernel
theorem dX1_init_4 : decode cX1_init 4 = .ok (.aload_n 0, 1) := by decide +kernel
theorem dX1_init_5 : decode cX1_init 5 = .ok (.bipush 30, 2) := by decide +kernel
theorem dX1_init_7 : decode cX1_init 7 = .ok (.newarray .int, 2) := by decide +kernel
theorem dX1_init_9 : decode cX1_init 9 = .ok (.putfield 9, 3) := by decide +kernel
theorem dX1_init_12 : decode cX1_init 12 = .ok (.aload_n 0, 1) := by decide +kernel
theorem dX1_init_13 : decode cX1_init 13 = .ok (.bipush 30, 2) := by decide +kernel
theorem dX1_init_15 : decode cX1_init 15 = .ok (.newarray .int, 2) := by decide +kernel
theorem dX1_init_17 : decode cX1_init 17 = .ok (.putfield 15, 3) := by decide +kernel
theorem dX1_init_20 : decode cX1_init 20 = .ok (.aload_n 0, 1) := by decide +kernel
theorem dX1_init_21 : decode cX1_init 21 = .ok (.bipush 30, 2) := by decide +kernel
theorem dX1_init_23 : decode cX1_init 23 = .ok (.newarray .int, 2) := by decide +kernel
theorem dX1_init_25 : decode cX1_init 25 = .ok (.putfield 18, 3) := by decide +kernel
theorem dX1_init_28 : decode cX1_init 28 = .ok (.aload_n 0, 1) := by decide +kernel
theorem dX1_init_29 : decode cX1_init 29 = .ok (.bipush 30, 2) := by decide +kernel
theorem dX1_init_31 : decode cX1_init 31 = .ok (.newarray .int, 2) := by decide +kernel
theorem dX1_init_33 : decode cX1_init 33 = .ok (.putfield 21, 3) := by decide +kernel
theorem dX1_init_36 : decode cX1_init 36 = .ok (.aload_n 0, 1) := by decide +kernel
theorem dX1_init_37 : decode cX1_init 37 = .ok (.bipush 30, 2) := by decide +kernel
theorem dX1_init_39 : decode cX1_init 39 = .ok (.newarray .int, 2) := by decide +kernel
theorem dX1_init_41 : decode cX1_init 41 = .ok (.putfield 24, 3) := by decide +kernel
theorem dX1_init_44 : decode cX1_init 44 = .ok (.return_, 1) := by decide +kernel
theorem dX1_gather_0 : decode cX1_gather 0 = .ok (.aload_n 0, 1) := by decide +kernel
theorem dX1_gather_1 : decode cX1_gather 1 = .ok (.iconst 0, 1) := by decide +kernel
theorem dX1_gather_2 : decode cX1_gather 2 = .ok (.putfield 27, 3) := by decide +kernel
theorem dX1_gather_5 : decode cX1_gather 5 = .ok (.aload_n 0, 1) := by decide +kernel
theorem dX1_gather_6 : decode cX1_gather 6 = .ok (.iload_n 1, 1) := by decide +kernel
theorem dX1_gather_7 : decode cX1_gather 7 = .ok (.putfield 31, 3) := by decide +kernel
theorem dX1_gather_10 : decode cX1_gather 10 = .ok (.aload_n 0, 1) := by decide +kernel
theorem dX1_gather_11 : decode cX1_gather 11 = .ok (.iload_n 2, 1) := by decide +kernel
theorem dX1_gather_12 : decode cX1_gather 12 = .ok (.iload_n 1, 1) := by decide +kernel
theorem dX1_gather_13 : decode cX1_gather 13 = .ok (.isub, 1) := by decide +kernel
theorem dX1_gather_14 : decode cX1_gather 14 = .ok (.putfield 34, 3) := by decide +kernel
theorem dX1_gather_17 : decode cX1_gather 17 = .ok (.return_, 1) := by decide +kernel
theorem dX1_append_0 : decode cX1_append 0 = .ok (.aload_n 0, 1) := by decide +kernel
theorem dX1_append_1 : decode cX1_append 1 = .ok (.getfield 27, 3) := by decide +kernel
theorem dX1_append_4 : decode cX1_append 4 = .ok (.ifCond .lt 12, 3) := by decide +kernel
theorem dX1_append_7 : decode cX1_append 7 = .ok (.aload_n 0, 1) := by decide +kernel
theorem dX1_append_8 : decode cX1_append 8 = .ok (.getfield 27, 3) := by decide +kernel
theorem dX1_append_11 : decode cX1_append 11 = .ok (.bipush 30, 2) := by decide +kernel
theorem dX1_append_13 : decode cX1_append 13 = .ok (.if_icmp .lt 4, 3) := by decide +kernel
theorem dX1_append_16 : decode cX1_append 16 = .ok (.return_, 1) := by decide +kernel
theorem dX1_append_17 : decode cX1_append 17 = .ok (.aload_n 0, 1) := by decide +kernel
theorem dX1_append_18 : decode cX1_append 18 = .ok (.getfield 9, 3) := by decide +kernel
theorem dX1_append_21 : decode cX1_append 21 = .ok (.aload_n 0, 1) := by decide +kernel
theorem dX1_append_22 : decode cX1_append 22 = .ok (.getfield 27, 3) := by decide +kernel
theorem dX1_append_25 : decode cX1_append 25 = .ok (.iload_n 1, 1) := by decide +kernel
theorem dX1_append_26 : decode cX1_append 26 = .ok (.iastore, 1) := by decide +kernel
theorem dX1_append_27 : decode cX1_append 27 = .ok (.aload_n 0, 1) := by decide +kernel
theorem dX1_append_28 : decode cX1_append 28 = .ok (.getfield 15, 3) := by decide +kernel
theorem dX1_append_31 : decode cX1_append 31 = .ok (.aload_n 0, 1) := by decide +kernel
theorem dX1_append_32 : decode cX1_append 32 = .ok (.getfield 27, 3) := by decide +kernel
theorem dX1_append_35 : decode cX1_append 35 = .ok (.aload_n 0, 1) := by decide +kernel
theorem dX1_append_36 : decode cX1_append 36 = .ok (.getfield 31, 3) := by decide +kernel
theorem dX1_append_39 : decode cX1_append 39 = .ok (.iload_n 2, 1) := by decide +kernel
theorem dX1_append_40 : decode cX1_append 40 = .ok (.isub, 1) := by decide +kernel
theorem dX1_append_41 : decode cX1_append 41 = .ok (.iastore, 1) := by decide +kernel
theorem dX1_append_42 : decode cX1_append 42 = .ok (.aload_n 0, 1) := by decide +kernel
theorem dX1_append_43 : decode cX1_append 43 = .ok (.getfield 18, 3) := by decide +kernel
theorem dX1_append_46 : decode cX1_append 46 = .ok (.aload_n 0, 1) := by decide +kernel
theorem dX1_append_47 : decode cX1_append 47 = .ok (.getfield 27, 3) := by decide +kernel
theorem dX1_append_50 : decode cX1_append 50 = .ok (.iload_n 3, 1) := by decide +kernel
theorem dX1_append_51 : decode cX1_append 51 = .ok (.iastore, 1) := by decide +kernel
theorem dX1_append_52 : decode cX1_append 52 = .ok (.aload_n 0, 1) := by decide +kernel
theorem dX1_append_53 : decode cX1_append 53 = .ok (.getfield 21, 3) := by decide +kernel
theorem dX1_append_56 : decode cX1_append 56 = .ok (.aload_n 0, 1) := by decide +kernel
theorem dX1_append_57 : decode cX1_append 57 = .ok (.getfield 27, 3) := by decide +kernel
theorem dX1_append_60 : decode cX1_append 60 = .ok (.iload 4, 2) := by decide +kernel
theorem dX1_append_62 : decode cX1_append 62 = .ok (.iastore, 1) := by decide +kernel
theorem dX1_append_63 : decode cX1_append 63 = .ok (.aload_n 0, 1) := by decide +kernel
theorem dX1_append_64 : decode cX1_append 64 = .ok (.getfield 24, 3) := by decide +kernel
theorem dX1_append_67 : decode cX1_append 67 = .ok (.aload_n 0, 1) := by decide +kernel
theorem dX1_append_68 : decode cX1_append 68 = .ok (.getfield 27, 3) := by decide +kernel
theorem dX1_append_71 : decode cX1_append 71 = .ok (.iload 5, 2) := by decide +kernel
theorem dX1_append_73 : decode cX1_append 73 = .ok (.iastore, 1) := by decide +kernel
theorem dX1_append_74 : decode cX1_append 74 = .ok (.aload_n 0, 1) := by decide +kernel
theorem dX1_append_75 : decode cX1_append 75 = .ok (.dup, 1) := by decide +kernel
theorem dX1_append_76 : decode cX1_append 76 = .ok (.getfield 27, 3) := by decide +kernel
theorem dX1_append_79 : decode cX1_append 79 = .ok (.iconst 1, 1) := by decide +kernel
theorem dX1_append_80 : decode cX1_append 80 = .ok (.iadd, 1) := by decide +kernel
theorem dX1_append_81 : decode cX1_append 81 = .ok (.putfield 27, 3) := by decide +kernel
theorem dX1_append_84 : decode cX1_append 84 = .ok (.return_, 1) := by decide +kernel
theorem dX1_named_0 : decode cX1_named 0 = .ok (.iload_n 2, 1) := by decide +kernel
theorem dX1_named_1 : decode cX1_named 1 = .ok (.ifCond .lt 17, 3) := by decide +kernel
theorem dX1_named_4 : decode cX1_named 4 = .ok (.iload_n 2, 1) := by decide +kernel
theorem dX1_named_5 : decode cX1_named 5 = .ok (.aload_n 0, 1) := by decide +kernel
theorem dX1_named_6 : decode cX1_named 6 = .ok (.getfield 27, 3) := by decide +kernel
theorem dX1_named_9 : decode cX1_named 9 = .ok (.if_icmp .ge 9, 3) := by decide +kernel
theorem dX1_named_12 : decode cX1_named 12 = .ok (.iload_n 2, 1) := by decide +kernel
theorem dX1_named_13 : decode cX1_named 13 = .ok (.bipush 30, 2) := by decide +kernel
theorem dX1_named_15 : decode cX1_named 15 = .ok (.if_icmp .lt 5, 3) := by decide +kernel
theorem dX1_named_18 : decode cX1_named 18 = .ok (.iconst 0, 1) := by decide +kernel
theorem dX1_named_19 : decode cX1_named 19 = .ok (.ireturn, 1) := by decide +kernel
theorem dX1_named_20 : decode cX1_named 20 = .ok (.iload_n 1, 1) := by decide +kernel
theorem dX1_named_21 : decode cX1_named 21 = .ok (.tableswitch 116 0 9 #[55, 62, 69, 76, 83, 85, 94, 99, 104, 109], 55) := by decide +kernel
theorem dX1_named_76 : decode cX1_named 76 = .ok (.aload_n 0, 1) := by decide +kernel
theorem dX1_named_77 : decode cX1_named 77 = .ok (.getfield 9, 3) := by decide +kernel
theorem dX1_named_80 : decode cX1_named 80 = .ok (.iload_n 2, 1) := by decide +kernel
theorem dX1_named_81 : decode cX1_named 81 = .ok (.iaload, 1) := by decide +kernel
theorem dX1_named_82 : decode cX1_named 82 = .ok (.ireturn, 1) := by decide +kernel
theorem dX1_named_83 : decode cX1_named 83 = .ok (.aload_n 0, 1) := by decide +kernel
theorem dX1_named_84 : decode cX1_named 84 = .ok (.getfield 15, 3) := by decide +kernel
theorem dX1_named_87 : decode cX1_named 87 = .ok (.iload_n 2, 1) := by decide +kernel
theorem dX1_named_88 : decode cX1_named 88 = .ok (.iaload, 1) := by decide +kernel
theorem dX1_named_89 : decode cX1_named 89 = .ok (.ireturn, 1) := by decide +kernel
theorem dX1_named_90 : decode cX1_named 90 = .ok (.aload_n 0, 1) := by decide +kernel
theorem dX1_named_91 : decode cX1_named 91 = .ok (.getfield 18, 3) := by decide +kernel
theorem dX1_named_94 : decode cX1_named 94 = .ok (.iload_n 2, 1) := by decide +kernel
theorem dX1_named_95 : decode cX1_named 95 = .ok (.iaload, 1) := by decide +kernel
theorem dX1_named_96 : decode cX1_named 96 = .ok (.ireturn, 1) := by decide +kernel
theorem dX1_named_97 : decode cX1_named 97 = .ok (.aload_n 0, 1) := by decide +kernel
theorem dX1_named_98 : decode cX1_named 98 = .ok (.getfield 21, 3) := by decide +kernel
theorem dX1_named_101 : decode cX1_named 101 = .ok (.iload_n 2, 1) := by decide +kernel
theorem dX1_named_102 : decode cX1_named 102 = .ok (.iaload, 1) := by decide +kernel
theorem dX1_named_103 : decode cX1_named 103 = .ok (.ireturn, 1) := by decide +kernel
theorem dX1_named_104 : decode cX1_named 104 = .ok (.iload_n 2, 1) := by decide +kernel
theorem dX1_named_105 : decode cX1_named 105 = .ok (.ireturn, 1) := by decide +kernel
theorem dX1_named_106 : decode cX1_named 106 = .ok (.aload_n 0, 1) := by decide +kernel
theorem dX1_named_107 : decode cX1_named 107 = .ok (.getfield 27, 3) := by decide +kernel
theorem dX1_named_110 : decode cX1_named 110 = .ok (.iconst 1, 1) := by decide +kernel
theorem dX1_named_111 : decode cX1_named 111 = .ok (.isub, 1) := by decide +kernel
theorem dX1_named_112 : decode cX1_named 112 = .ok (.iload_n 2, 1) := by decide +kernel
theorem dX1_named_113 : decode cX1_named 113 = .ok (.isub, 1) := by decide +kernel
theorem dX1_named_114 : decode cX1_named 114 = .ok (.ireturn, 1) := by decide +kernel
theorem dX1_named_115 : decode cX1_named 115 = .ok (.aload_n 0, 1) := by decide +kernel
theorem dX1_named_116 : decode cX1_named 116 = .ok (.getfield 27, 3) := by decide +kernel
theorem dX1_named_119 : decode cX1_named 119 = .ok (.ireturn, 1) := by decide +kernel
theorem dX1_named_120 : decode cX1_named 120 = .ok (.aload_n 0, 1) := by decide +kernel
theorem dX1_named_121 : decode cX1_named 121 = .ok (.getfield 31, 3) := by decide +kernel
theorem dX1_named_124 : decode cX1_named 124 = .ok (.ireturn, 1) := by decide +kernel
theorem dX1_named_125 : decode cX1_named 125 = .ok (.aload_n 0, 1) := by decide +kernel
theorem dX1_named_126 : decode cX1_named 126 = .ok (.getfield 34, 3) := by decide +kernel
theorem dX1_named_129 : decode cX1_named 129 = .ok (.ireturn, 1) := by decide +kernel
theorem dX1_named_130 : decode cX1_named 130 = .ok (.aload_n 0, 1) := by decide +kernel
theorem dX1_named_131 : decode cX1_named 131 = .ok (.getfield 24, 3) := by decide +kernel
theorem dX1_named_134 : decode cX1_named 134 = .ok (.iload_n 2, 1) := by decide +kernel
theorem dX1_named_135 : decode cX1_named 135 = .ok (.iaload, 1) := by decide +kernel
theorem dX1_named_136 : decode cX1_named 136 = .ok (.ireturn, 1) := by decide +kernel
theorem dX1_named_137 : decode cX1_named 137 = .ok (.iconst 0, 1) := by decide +kernel
theorem dX1_named_138 : decode cX1_named 138 = .ok (.ireturn, 1) := by decide +kernel
theorem dX2_init_0 : decode cX2_init 0 = .ok (.aload_n 0, 1) := by decide +kernel
theorem dX2_init_1 : decode cX2_init 1 = .ok (.invokespecial 3, 3) := by decide +kernel
theorem dX2_init_4 : decode cX2_init 4 = .ok (.aload_n 0, 1) := by decide +kernel
theorem dX2_init_5 : decode cX2_init 5 = .ok (.bipush 30, 2) := by decide +kernel
theorem dX2_init_7 : decode cX2_init 7 = .ok (.newarray .int, 2) := by decide +kernel
theorem dX2_init_9 : decode cX2_init 9 = .ok (.putfield 9, 3) := by decide +kernel
theorem dX2_init_12 : decode cX2_init 12 = .ok (.return_, 1) := by decide +kernel
theorem dX2_open_0 : decode cX2_open 0 = .ok (.aload_n 0, 1) := by decide +kernel
theorem dX2_open_1 : decode cX2_open 1 = .ok (.iconst 0, 1) := by decide +kernel
theorem dX2_open_2 : decode cX2_open 2 = .ok (.putfield 15, 3) := by decide +kernel
theorem dX2_open_5 : decode cX2_open 5 = .ok (.aload_n 0, 1) := by decide +kernel
theorem dX2_open_6 : decode cX2_open 6 = .ok (.iload_n 1, 1) := by decide +kernel
theorem dX2_open_7 : decode cX2_open 7 = .ok (.putfield 19, 3) := by decide +kernel
theorem dX2_open_10 : decode cX2_open 10 = .ok (.aload_n 0, 1) := by decide +kernel
theorem dX2_open_11 : decode cX2_open 11 = .ok (.iconst 0, 1) := by decide +kernel
theorem dX2_open_12 : decode cX2_open 12 = .ok (.putfield 22, 3) := by decide +kernel
theorem dX2_open_15 : decode cX2_open 15 = .ok (.return_, 1) := by decide +kernel
theorem dX2_takeOver_0 : decode cX2_takeOver 0 = .ok (.aload_n 1, 1) := by decide +kernel
theorem dX2_takeOver_1 : decode cX2_takeOver 1 = .ok (.getfield 9, 3) := by decide +kernel
theorem dX2_takeOver_4 : decode cX2_takeOver 4 = .ok (.iconst 0, 1) := by decide +kernel
theorem dX2_takeOver_5 : decode cX2_takeOver 5 = .ok (.aload_n 0, 1) := by decide +kernel
theorem dX2_takeOver_6 : decode cX2_takeOver 6 = .ok (.getfield 9, 3) := by decide +kernel
theorem dX2_takeOver_9 : decode cX2_takeOver 9 = .ok (.iconst 0, 1) := by decide +kernel
theorem dX2_takeOver_10 : decode cX2_takeOver 10 = .ok (.bipush 30, 2) := by decide +kernel
theorem dX2_takeOver_12 : decode cX2_takeOver 12 = .ok (.invokestatic 25, 3) := by decide +kernel
theorem dX2_takeOver_15 : decode cX2_takeOver 15 = .ok (.aload_n 0, 1) := by decide +kernel
theorem dX2_takeOver_16 : decode cX2_takeOver 16 = .ok (.aload_n 1, 1) := by decide +kernel
theorem dX2_takeOver_17 : decode cX2_takeOver 17 = .ok (.getfield 15, 3) := by decide +kernel
theorem dX2_takeOver_20 : decode cX2_takeOver 20 = .ok (.putfield 15, 3) := by decide +kernel
theorem dX2_takeOver_23 : decode cX2_takeOver 23 = .ok (.aload_n 0, 1) := by decide +kernel
theorem dX2_takeOver_24 : decode cX2_takeOver 24 = .ok (.aload_n 1, 1) := by decide +kernel
theorem dX2_takeOver_25 : decode cX2_takeOver 25 = .ok (.getfield 19, 3) := by decide +kernel
theorem dX2_takeOver_28 : decode cX2_takeOver 28 = .ok (.putfield 19, 3) := by decide +kernel
theorem dX2_takeOver_31 : decode cX2_takeOver 31 = .ok (.aload_n 0, 1) := by decide +kernel
theorem dX2_takeOver_32 : decode cX2_takeOver 32 = .ok (.aload_n 1, 1) := by decide +kernel
theorem dX2_takeOver_33 : decode cX2_takeOver 33 = .ok (.getfield 22, 3) := by decide +kernel
theorem dX2_takeOver_36 : decode cX2_takeOver 36 = .ok (.putfield 22, 3) := by decide +kernel
theorem dX2_takeOver_39 : decode cX2_takeOver 39 = .ok (.return_, 1) := by decide +kernel
theorem dX2_append_0 : decode cX2_append 0 = .ok (.aload_n 0, 1) := by decide +kernel
theorem dX2_append_1 : decode cX2_append 1 = .ok (.getfield 15, 3) := by decide +kernel
theorem dX2_append_4 : decode cX2_append 4 = .ok (.ifCond .lt 32, 3) := by decide +kernel
theorem dX2_append_7 : decode cX2_append 7 = .ok (.aload_n 0, 1) := by decide +kernel
theorem dX2_append_8 : decode cX2_append 8 = .ok (.getfield 15, 3) := by decide +kernel
theorem dX2_append_11 : decode cX2_append 11 = .ok (.bipush 30, 2) := by decide +kernel
theorem dX2_append_13 : decode cX2_append 13 = .ok (.if_icmp .ge 23, 3) := by decide +kernel
theorem dX2_append_16 : decode cX2_append 16 = .ok (.aload_n 0, 1) := by decide +kernel
theorem dX2_append_17 : decode cX2_append 17 = .ok (.getfield 9, 3) := by decide +kernel
theorem dX2_append_20 : decode cX2_append 20 = .ok (.aload_n 0, 1) := by decide +kernel
theorem dX2_append_21 : decode cX2_append 21 = .ok (.getfield 15, 3) := by decide +kernel
theorem dX2_append_24 : decode cX2_append 24 = .ok (.iload_n 1, 1) := by decide +kernel
theorem dX2_append_25 : decode cX2_append 25 = .ok (.iastore, 1) := by decide +kernel
theorem dX2_append_26 : decode cX2_append 26 = .ok (.aload_n 0, 1) := by decide +kernel
theorem dX2_append_27 : decode cX2_append 27 = .ok (.dup, 1) := by decide +kernel
theorem dX2_append_28 : decode cX2_append 28 = .ok (.getfield 15, 3) := by decide +kernel
theorem dX2_append_31 : decode cX2_append 31 = .ok (.iconst 1, 1) := by decide +kernel
theorem dX2_append_32 : decode cX2_append 32 = .ok (.iadd, 1) := by decide +kernel
theorem dX2_append_33 : decode cX2_append 33 = .ok (.putfield 15, 3) := by decide +kernel
theorem dX2_append_36 : decode cX2_append 36 = .ok (.return_, 1) := by decide +kernel
theorem dX2_at_0 : decode cX2_at 0 = .ok (.iload_n 1, 1) := by decide +kernel
theorem dX2_at_1 : decode cX2_at 1 = .ok (.ifCond .lt 26, 3) := by decide +kernel
theorem dX2_at_4 : decode cX2_at 4 = .ok (.iload_n 1, 1) := by decide +kernel
theorem dX2_at_5 : decode cX2_at 5 = .ok (.aload_n 0, 1) := by decide +kernel
theorem dX2_at_6 : decode cX2_at 6 = .ok (.getfield 15, 3) := by decide +kernel
theorem dX2_at_9 : decode cX2_at 9 = .ok (.if_icmp .ge 18, 3) := by decide +kernel
theorem dX2_at_12 : decode cX2_at 12 = .ok (.iload_n 1, 1) := by decide +kernel
theorem dX2_at_13 : decode cX2_at 13 = .ok (.bipush 30, 2) := by decide +kernel
theorem dX2_at_15 : decode cX2_at 15 = .ok (.if_icmp .ge 12, 3) := by decide +kernel
theorem dX2_at_18 : decode cX2_at 18 = .ok (.aload_n 0, 1) := by decide +kernel
theorem dX2_at_19 : decode cX2_at 19 = .ok (.getfield 9, 3) := by decide +kernel
theorem dX2_at_22 : decode cX2_at 22 = .ok (.iload_n 1, 1) := by decide +kernel
theorem dX2_at_23 : decode cX2_at 23 = .ok (.iaload, 1) := by decide +kernel
theorem dX2_at_24 : decode cX2_at 24 = .ok (.goto 4, 3) := by decide +kernel
theorem dX2_at_27 : decode cX2_at 27 = .ok (.iconst (-1), 1) := by decide +kernel
theorem dX2_at_28 : decode cX2_at 28 = .ok (.ireturn, 1) := by decide +kernel
theorem dX2_placeOf_0 : decode cX2_placeOf 0 = .ok (.iconst 0, 1) := by decide +kernel
theorem dX2_placeOf_1 : decode cX2_placeOf 1 = .ok (.istore_n 2, 1) := by decide +kernel
theorem dX2_placeOf_2 : decode cX2_placeOf 2 = .ok (.iload_n 2, 1) := by decide +kernel
theorem dX2_placeOf_3 : decode cX2_placeOf 3 = .ok (.aload_n 0, 1) := by decide +kernel
theorem dX2_placeOf_4 : decode cX2_placeOf 4 = .ok (.getfield 15, 3) := by decide +kernel
theorem dX2_placeOf_7 : decode cX2_placeOf 7 = .ok (.if_icmp .ge 27, 3) := by decide +kernel
theorem dX2_placeOf_10 : decode cX2_placeOf 10 = .ok (.iload_n 2, 1) := by decide +kernel
theorem dX2_placeOf_11 : decode cX2_placeOf 11 = .ok (.bipush 30, 2) := by decide +kernel
theorem dX2_placeOf_13 : decode cX2_placeOf 13 = .ok (.if_icmp .ge 21, 3) := by decide +kernel
theorem dX2_placeOf_16 : decode cX2_placeOf 16 = .ok (.aload_n 0, 1) := by decide +kernel
theorem dX2_placeOf_17 : decode cX2_placeOf 17 = .ok (.getfield 9, 3) := by decide +kernel
theorem dX2_placeOf_20 : decode cX2_placeOf 20 = .ok (.iload_n 2, 1) := by decide +kernel
theorem dX2_placeOf_21 : decode cX2_placeOf 21 = .ok (.iaload, 1) := by decide +kernel
theorem dX2_placeOf_22 : decode cX2_placeOf 22 = .ok (.iload_n 1, 1) := by decide +kernel
theorem dX2_placeOf_23 : decode cX2_placeOf 23 = .ok (.if_icmp .ne 5, 3) := by decide +kernel
theorem dX2_placeOf_26 : decode cX2_placeOf 26 = .ok (.iload_n 2, 1) := by decide +kernel
theorem dX2_placeOf_27 : decode cX2_placeOf 27 = .ok (.ireturn, 1) := by decide +kernel
theorem dX2_placeOf_28 : decode cX2_placeOf 28 = .ok (.iinc 2 1, 3) := by decide +kernel
theorem dX2_placeOf_31 : decode cX2_placeOf 31 = .ok (.goto (-29), 3) := by decide +kernel
theorem dX2_placeOf_34 : decode cX2_placeOf 34 = .ok (.iconst (-1), 1) := by decide +kernel
theorem dX2_placeOf_35 : decode cX2_placeOf 35 = .ok (.ireturn, 1) := by decide +kernel
theorem dX2_remove_0 : decode cX2_remove 0 = .ok (.aload_n 0, 1) := by decide +kernel
theorem dX2_remove_1 : decode cX2_remove 1 = .ok (.iload_n 1, 1) := by decide +kernel
theorem dX2_remove_2 : decode cX2_remove 2 = .ok (.invokevirtual 31, 3) := by decide +kernel
theorem dX2_remove_5 : decode cX2_remove 5 = .ok (.istore_n 2, 1) := by decide +kernel
theorem dX2_remove_6 : decode cX2_remove 6 = .ok (.iload_n 2, 1) := by decide +kernel
theorem dX2_remove_7 : decode cX2_remove 7 = .ok (.iconst (-1), 1) := by decide +kernel
theorem dX2_remove_8 : decode cX2_remove 8 = .ok (.if_icmp .ne 4, 3) := by decide +kernel
theorem dX2_remove_11 : decode cX2_remove 11 = .ok (.return_, 1) := by decide +kernel
theorem dX2_remove_12 : decode cX2_remove 12 = .ok (.aload_n 0, 1) := by decide +kernel
theorem dX2_remove_13 : decode cX2_remove 13 = .ok (.dup, 1) := by decide +kernel
theorem dX2_remove_14 : decode cX2_remove 14 = .ok (.getfield 15, 3) := by decide +kernel
theorem dX2_remove_17 : decode cX2_remove 17 = .ok (.iconst 1, 1) := by decide +kernel
theorem dX2_remove_18 : decode cX2_remove 18 = .ok (.isub, 1) := by decide +kernel
theorem dX2_remove_19 : decode cX2_remove 19 = .ok (.putfield 15, 3) := by decide +kernel
theorem dX2_remove_22 : decode cX2_remove 22 = .ok (.iload_n 2, 1) := by decide +kernel
theorem dX2_remove_23 : decode cX2_remove 23 = .ok (.istore_n 3, 1) := by decide +kernel
theorem dX2_remove_24 : decode cX2_remove 24 = .ok (.iload_n 3, 1) := by decide +kernel
theorem dX2_remove_25 : decode cX2_remove 25 = .ok (.aload_n 0, 1) := by decide +kernel
theorem dX2_remove_26 : decode cX2_remove 26 = .ok (.getfield 15, 3) := by decide +kernel
theorem dX2_remove_29 : decode cX2_remove 29 = .ok (.if_icmp .ge 29, 3) := by decide +kernel
theorem dX2_remove_32 : decode cX2_remove 32 = .ok (.iload_n 3, 1) := by decide +kernel
theorem dX2_remove_33 : decode cX2_remove 33 = .ok (.bipush 29, 2) := by decide +kernel
theorem dX2_remove_35 : decode cX2_remove 35 = .ok (.if_icmp .ge 23, 3) := by decide +kernel
theorem dX2_remove_38 : decode cX2_remove 38 = .ok (.aload_n 0, 1) := by decide +kernel
theorem dX2_remove_39 : decode cX2_remove 39 = .ok (.getfield 9, 3) := by decide +kernel
theorem dX2_remove_42 : decode cX2_remove 42 = .ok (.iload_n 3, 1) := by decide +kernel
theorem dX2_remove_43 : decode cX2_remove 43 = .ok (.aload_n 0, 1) := by decide +kernel
theorem dX2_remove_44 : decode cX2_remove 44 = .ok (.getfield 9, 3) := by decide +kernel
theorem dX2_remove_47 : decode cX2_remove 47 = .ok (.iload_n 3, 1) := by decide +kernel
theorem dX2_remove_48 : decode cX2_remove 48 = .ok (.iconst 1, 1) := by decide +kernel
theorem dX2_remove_49 : decode cX2_remove 49 = .ok (.iadd, 1) := by decide +kernel
theorem dX2_remove_50 : decode cX2_remove 50 = .ok (.iaload, 1) := by decide +kernel
theorem dX2_remove_51 : decode cX2_remove 51 = .ok (.iastore, 1) := by decide +kernel
theorem dX2_remove_52 : decode cX2_remove 52 = .ok (.iinc 3 1, 3) := by decide +kernel
theorem dX2_remove_55 : decode cX2_remove 55 = .ok (.goto (-31), 3) := by decide +kernel
theorem dX2_remove_58 : decode cX2_remove 58 = .ok (.return_, 1) := by decide +kernel
theorem dX3_init_0 : decode cX3_init 0 = .ok (.aload_n 0, 1) := by decide +kernel
theorem dX3_init_1 : decode cX3_init 1 = .ok (.invokespecial 3, 3) := by decide +kernel
theorem dX3_init_4 : decode cX3_init 4 = .ok (.aload_n 0, 1) := by decide +kernel
theorem dX3_init_5 : decode cX3_init 5 = .ok (.sipush 500, 3) := by decide +kernel
theorem dX3_init_8 : decode cX3_init 8 = .ok (.newarray .int, 2) := by decide +kernel
theorem dX3_init_10 : decode cX3_init 10 = .ok (.putfield 9, 3) := by decide +kernel
theorem dX3_init_13 : decode cX3_init 13 = .ok (.aload_n 0, 1) := by decide +kernel
theorem dX3_init_14 : decode cX3_init 14 = .ok (.iconst 5, 1) := by decide +kernel
theorem dX3_init_15 : decode cX3_init 15 = .ok (.newarray .int, 2) := by decide +kernel
theorem dX3_init_17 : decode cX3_init 17 = .ok (.putfield 15, 3) := by decide +kernel
theorem dX3_init_20 : decode cX3_init 20 = .ok (.aload_n 0, 1) := by decide +kernel
theorem dX3_init_21 : decode cX3_init 21 = .ok (.iconst 5, 1) := by decide +kernel
theorem dX3_init_22 : decode cX3_init 22 = .ok (.newarray .boolean, 2) := by decide +kernel
theorem dX3_init_24 : decode cX3_init 24 = .ok (.putfield 18, 3) := by decide +kernel
theorem dX3_init_27 : decode cX3_init 27 = .ok (.aload_n 0, 1) := by decide +kernel
theorem dX3_init_28 : decode cX3_init 28 = .ok (.bipush 40, 2) := by decide +kernel
theorem dX3_init_30 : decode cX3_init 30 = .ok (.newarray .int, 2) := by decide +kernel
theorem dX3_init_32 : decode cX3_init 32 = .ok (.putfield 22, 3) := by decide +kernel
theorem dX3_init_35 : decode cX3_init 35 = .ok (.return_, 1) := by decide +kernel
theorem dX3_read_0 : decode cX3_read 0 = .ok (.aload_n 0, 1) := by decide +kernel
theorem dX3_read_1 : decode cX3_read 1 = .ok (.iconst 0, 1) := by decide +kernel
theorem dX3_read_2 : decode cX3_read 2 = .ok (.putfield 25, 3) := by decide +kernel
theorem dX3_read_5 : decode cX3_read 5 = .ok (.aload_n 0, 1) := by decide +kernel
theorem dX3_read_6 : decode cX3_read 6 = .ok (.iconst 0, 1) := by decide +kernel
theorem dX3_read_7 : decode cX3_read 7 = .ok (.putfield 29, 3) := by decide +kernel
theorem dX3_read_10 : decode cX3_read 10 = .ok (.aload_n 1, 1) := by decide +kernel
theorem dX3_read_11 : decode cX3_read 11 = .ok (.invokevirtual 32, 3) := by decide +kernel
theorem dX3_read_14 : decode cX3_read 14 = .ok (.iconst 0, 1) := by decide +kernel
theorem dX3_read_15 : decode cX3_read 15 = .ok (.istore_n 2, 1) := by decide +kernel
theorem dX3_read_16 : decode cX3_read 16 = .ok (.iload_n 2, 1) := by decide +kernel
theorem dX3_read_17 : decode cX3_read 17 = .ok (.sipush 500, 3) := by decide +kernel
theorem dX3_read_20 : decode cX3_read 20 = .ok (.if_icmp .ge 21, 3) := by decide +kernel
theorem dX3_read_23 : decode cX3_read 23 = .ok (.aload_n 1, 1) := by decide +kernel
theorem dX3_read_24 : decode cX3_read 24 = .ok (.invokevirtual 37, 3) := by decide +kernel
theorem dX3_read_27 : decode cX3_read 27 = .ok (.ifCond .eq 14, 3) := by decide +kernel
theorem dX3_read_30 : decode cX3_read 30 = .ok (.aload_n 0, 1) := by decide +kernel
theorem dX3_read_31 : decode cX3_read 31 = .ok (.aload_n 1, 1) := by decide +kernel
theorem dX3_read_32 : decode cX3_read 32 = .ok (.invokevirtual 41, 3) := by decide +kernel
theorem dX3_read_35 : decode cX3_read 35 = .ok (.iinc 2 1, 3) := by decide +kernel
theorem dX3_read_38 : decode cX3_read 38 = .ok (.goto (-22), 3) := by decide +kernel
theorem dX3_read_41 : decode cX3_read 41 = .ok (.aload_n 0, 1) := by decide +kernel
theorem dX3_read_42 : decode cX3_read 42 = .ok (.getfield 25, 3) := by decide +kernel
theorem dX3_read_45 : decode cX3_read 45 = .ok (.ifCond .ne 7, 3) := by decide +kernel
theorem dX3_read_48 : decode cX3_read 48 = .ok (.aload_n 1, 1) := by decide +kernel
theorem dX3_read_49 : decode cX3_read 49 = .ok (.invokevirtual 45, 3) := by decide +kernel
theorem dX3_read_52 : decode cX3_read 52 = .ok (.aload_n 1, 1) := by decide +kernel
theorem dX3_read_53 : decode cX3_read 53 = .ok (.getfield 48, 3) := by decide +kernel
theorem dX3_read_56 : decode cX3_read 56 = .ok (.ireturn, 1) := by decide +kernel
theorem dX3_readLine_0 : decode cX3_readLine 0 = .ok (.aload_n 1, 1) := by decide +kernel
theorem dX3_readLine_1 : decode cX3_readLine 1 = .ok (.ldc 51, 2) := by decide +kernel
theorem dX3_readLine_3 : decode cX3_readLine 3 = .ok (.invokevirtual 53, 3) := by decide +kernel
theorem dX3_readLine_6 : decode cX3_readLine 6 = .ok (.ifCond .eq 18, 3) := by decide +kernel
theorem dX3_readLine_9 : decode cX3_readLine 9 = .ok (.aload_n 0, 1) := by decide +kernel
theorem dX3_readLine_10 : decode cX3_readLine 10 = .ok (.getfield 25, 3) := by decide +kernel
theorem dX3_readLine_13 : decode cX3_readLine 13 = .ok (.ifCond .lt 11, 3) := by decide +kernel
theorem dX3_readLine_16 : decode cX3_readLine 16 = .ok (.aload_n 0, 1) := by decide +kernel
theorem dX3_readLine_17 : decode cX3_readLine 17 = .ok (.getfield 25, 3) := by decide +kernel
theorem dX3_readLine_20 : decode cX3_readLine 20 = .ok (.iconst 5, 1) := by decide +kernel
theorem dX3_readLine_21 : decode cX3_readLine 21 = .ok (.if_icmp .lt 8, 3) := by decide +kernel
theorem dX3_readLine_24 : decode cX3_readLine 24 = .ok (.aload_n 1, 1) := by decide +kernel
theorem dX3_readLine_25 : decode cX3_readLine 25 = .ok (.invokevirtual 45, 3) := by decide +kernel
theorem dX3_readLine_28 : decode cX3_readLine 28 = .ok (.return_, 1) := by decide +kernel
theorem dX3_readLine_29 : decode cX3_readLine 29 = .ok (.aload_n 1, 1) := by decide +kernel
theorem dX3_readLine_30 : decode cX3_readLine 30 = .ok (.invokevirtual 57, 3) := by decide +kernel
theorem dX3_readLine_33 : decode cX3_readLine 33 = .ok (.aload_n 1, 1) := by decide +kernel
theorem dX3_readLine_34 : decode cX3_readLine 34 = .ok (.ldc 60, 2) := by decide +kernel
theorem dX3_readLine_36 : decode cX3_readLine 36 = .ok (.invokevirtual 53, 3) := by decide +kernel
theorem dX3_readLine_39 : decode cX3_readLine 39 = .ok (.istore_n 2, 1) := by decide +kernel
theorem dX3_readLine_40 : decode cX3_readLine 40 = .ok (.iload_n 2, 1) := by decide +kernel
theorem dX3_readLine_41 : decode cX3_readLine 41 = .ok (.ifCond .ne 17, 3) := by decide +kernel
theorem dX3_readLine_44 : decode cX3_readLine 44 = .ok (.aload_n 1, 1) := by decide +kernel
theorem dX3_readLine_45 : decode cX3_readLine 45 = .ok (.ldc 62, 2) := by decide +kernel
theorem dX3_readLine_47 : decode cX3_readLine 47 = .ok (.invokevirtual 53, 3) := by decide +kernel
theorem dX3_readLine_50 : decode cX3_readLine 50 = .ok (.ifCond .ne 8, 3) := by decide +kernel
theorem dX3_readLine_53 : decode cX3_readLine 53 = .ok (.aload_n 1, 1) := by decide +kernel
theorem dX3_readLine_54 : decode cX3_readLine 54 = .ok (.invokevirtual 45, 3) := by decide +kernel
theorem dX3_readLine_57 : decode cX3_readLine 57 = .ok (.return_, 1) := by decide +kernel
theorem dX3_readLine_58 : decode cX3_readLine 58 = .ok (.aload_n 1, 1) := by decide +kernel
theorem dX3_readLine_59 : decode cX3_readLine 59 = .ok (.invokevirtual 57, 3) := by decide +kernel
theorem dX3_readLine_62 : decode cX3_readLine 62 = .ok (.aload_n 0, 1) := by decide +kernel
theorem dX3_readLine_63 : decode cX3_readLine 63 = .ok (.aload_n 1, 1) := by decide +kernel
theorem dX3_readLine_64 : decode cX3_readLine 64 = .ok (.iconst 0, 1) := by decide +kernel
theorem dX3_readLine_65 : decode cX3_readLine 65 = .ok (.invokevirtual 64, 3) := by decide +kernel
theorem dX3_readLine_68 : decode cX3_readLine 68 = .ok (.aload_n 1, 1) := by decide +kernel
theorem dX3_readLine_69 : decode cX3_readLine 69 = .ok (.bipush 59, 2) := by decide +kernel
theorem dX3_readLine_71 : decode cX3_readLine 71 = .ok (.invokevirtual 68, 3) := by decide +kernel
theorem dX3_readLine_74 : decode cX3_readLine 74 = .ok (.ifCond .eq 36, 3) := by decide +kernel
theorem dX3_readLine_77 : decode cX3_readLine 77 = .ok (.aload_n 0, 1) := by decide +kernel
theorem dX3_readLine_78 : decode cX3_readLine 78 = .ok (.getfield 18, 3) := by decide +kernel
theorem dX3_readLine_81 : decode cX3_readLine 81 = .ok (.aload_n 0, 1) := by decide +kernel
theorem dX3_readLine_82 : decode cX3_readLine 82 = .ok (.getfield 25, 3) := by decide +kernel
theorem dX3_readLine_85 : decode cX3_readLine 85 = .ok (.iload_n 2, 1) := by decide +kernel
theorem dX3_readLine_86 : decode cX3_readLine 86 = .ok (.bastore, 1) := by decide +kernel
theorem dX3_readLine_87 : decode cX3_readLine 87 = .ok (.aload_n 0, 1) := by decide +kernel
theorem dX3_readLine_88 : decode cX3_readLine 88 = .ok (.getfield 15, 3) := by decide +kernel
theorem dX3_readLine_91 : decode cX3_readLine 91 = .ok (.aload_n 0, 1) := by decide +kernel
theorem dX3_readLine_92 : decode cX3_readLine 92 = .ok (.getfield 25, 3) := by decide +kernel
theorem dX3_readLine_95 : decode cX3_readLine 95 = .ok (.aload_n 0, 1) := by decide +kernel
theorem dX3_readLine_96 : decode cX3_readLine 96 = .ok (.getfield 29, 3) := by decide +kernel
theorem dX3_readLine_99 : decode cX3_readLine 99 = .ok (.iastore, 1) := by decide +kernel
theorem dX3_readLine_100 : decode cX3_readLine 100 = .ok (.aload_n 0, 1) := by decide +kernel
theorem dX3_readLine_101 : decode cX3_readLine 101 = .ok (.dup, 1) := by decide +kernel
theorem dX3_readLine_102 : decode cX3_readLine 102 = .ok (.getfield 25, 3) := by decide +kernel
theorem dX3_readLine_105 : decode cX3_readLine 105 = .ok (.iconst 1, 1) := by decide +kernel
theorem dX3_readLine_106 : decode cX3_readLine 106 = .ok (.iadd, 1) := by decide +kernel
theorem dX3_readLine_107 : decode cX3_readLine 107 = .ok (.putfield 25, 3) := by decide +kernel
theorem dX3_readLine_110 : decode cX3_readLine 110 = .ok (.return_, 1) := by decide +kernel
theorem dX3_readSum_0 : decode cX3_readSum 0 = .ok (.aload_n 0, 1) := by decide +kernel
theorem dX3_readSum_1 : decode cX3_readSum 1 = .ok (.aload_n 1, 1) := by decide +kernel
theorem dX3_readSum_2 : decode cX3_readSum 2 = .ok (.iload_n 2, 1) := by decide +kernel
theorem dX3_readSum_3 : decode cX3_readSum 3 = .ok (.invokevirtual 72, 3) := by decide +kernel
theorem dX3_readSum_6 : decode cX3_readSum 6 = .ok (.iconst 0, 1) := by decide +kernel
theorem dX3_readSum_7 : decode cX3_readSum 7 = .ok (.istore_n 3, 1) := by decide +kernel
theorem dX3_readSum_8 : decode cX3_readSum 8 = .ok (.iload_n 3, 1) := by decide +kernel
theorem dX3_readSum_9 : decode cX3_readSum 9 = .ok (.sipush 500, 3) := by decide +kernel
theorem dX3_readSum_12 : decode cX3_readSum 12 = .ok (.if_icmp .ge 57, 3) := by decide +kernel
theorem dX3_readSum_15 : decode cX3_readSum 15 = .ok (.aload_n 1, 1) := by decide +kernel
theorem dX3_readSum_16 : decode cX3_readSum 16 = .ok (.invokevirtual 75, 3) := by decide +kernel
theorem dX3_readSum_19 : decode cX3_readSum 19 = .ok (.ifCond .eq 50, 3) := by decide +kernel
theorem dX3_readSum_22 : decode cX3_readSum 22 = .ok (.aload_n 1, 1) := by decide +kernel
theorem dX3_readSum_23 : decode cX3_readSum 23 = .ok (.getfield 78, 3) := by decide +kernel
theorem dX3_readSum_26 : decode cX3_readSum 26 = .ok (.istore 4, 2) := by decide +kernel
theorem dX3_readSum_28 : decode cX3_readSum 28 = .ok (.iload 4, 2) := by decide +kernel
theorem dX3_readSum_30 : decode cX3_readSum 30 = .ok (.bipush 43, 2) := by decide +kernel
theorem dX3_readSum_32 : decode cX3_readSum 32 = .ok (.if_icmp .eq 11, 3) := by decide +kernel
theorem dX3_readSum_35 : decode cX3_readSum 35 = .ok (.iload 4, 2) := by decide +kernel
theorem dX3_readSum_37 : decode cX3_readSum 37 = .ok (.bipush 45, 2) := by decide +kernel
theorem dX3_readSum_39 : decode cX3_readSum 39 = .ok (.if_icmp .eq 4, 3) := by decide +kernel
theorem dX3_readSum_42 : decode cX3_readSum 42 = .ok (.return_, 1) := by decide +kernel
theorem dX3_readSum_43 : decode cX3_readSum 43 = .ok (.aload_n 1, 1) := by decide +kernel
theorem dX3_readSum_44 : decode cX3_readSum 44 = .ok (.invokevirtual 57, 3) := by decide +kernel
theorem dX3_readSum_47 : decode cX3_readSum 47 = .ok (.aload_n 0, 1) := by decide +kernel
theorem dX3_readSum_48 : decode cX3_readSum 48 = .ok (.aload_n 1, 1) := by decide +kernel
theorem dX3_readSum_49 : decode cX3_readSum 49 = .ok (.iload_n 2, 1) := by decide +kernel
theorem dX3_readSum_50 : decode cX3_readSum 50 = .ok (.invokevirtual 72, 3) := by decide +kernel
theorem dX3_readSum_53 : decode cX3_readSum 53 = .ok (.aload_n 0, 1) := by decide +kernel
theorem dX3_readSum_54 : decode cX3_readSum 54 = .ok (.sipush 20000, 3) := by decide +kernel
theorem dX3_readSum_57 : decode cX3_readSum 57 = .ok (.iload 4, 2) := by decide +kernel
theorem dX3_readSum_59 : decode cX3_readSum 59 = .ok (.iadd, 1) := by decide +kernel
theorem dX3_readSum_60 : decode cX3_readSum 60 = .ok (.invokevirtual 81, 3) := by decide +kernel
theorem dX3_readSum_63 : decode cX3_readSum 63 = .ok (.iinc 3 1, 3) := by decide +kernel
theorem dX3_readSum_66 : decode cX3_readSum 66 = .ok (.goto (-58), 3) := by decide +kernel
theorem dX3_readSum_69 : decode cX3_readSum 69 = .ok (.return_, 1) := by decide +kernel
theorem dX3_readProduct_0 : decode cX3_readProduct 0 = .ok (.aload_n 0, 1) := by decide +kernel
theorem dX3_readProduct_1 : decode cX3_readProduct 1 = .ok (.aload_n 1, 1) := by decide +kernel
theorem dX3_readProduct_2 : decode cX3_readProduct 2 = .ok (.iload_n 2, 1) := by decide +kernel
theorem dX3_readProduct_3 : decode cX3_readProduct 3 = .ok (.invokevirtual 85, 3) := by decide +kernel
theorem dX3_readProduct_6 : decode cX3_readProduct 6 = .ok (.iconst 0, 1) := by decide +kernel
theorem dX3_readProduct_7 : decode cX3_readProduct 7 = .ok (.istore_n 3, 1) := by decide +kernel
theorem dX3_readProduct_8 : decode cX3_readProduct 8 = .ok (.iload_n 3, 1) := by decide +kernel
theorem dX3_readProduct_9 : decode cX3_readProduct 9 = .ok (.sipush 500, 3) := by decide +kernel
theorem dX3_readProduct_12 : decode cX3_readProduct 12 = .ok (.if_icmp .ge 42, 3) := by decide +kernel
theorem dX3_readProduct_15 : decode cX3_readProduct 15 = .ok (.aload_n 1, 1) := by decide +kernel
theorem dX3_readProduct_16 : decode cX3_readProduct 16 = .ok (.invokevirtual 75, 3) := by decide +kernel
theorem dX3_readProduct_19 : decode cX3_readProduct 19 = .ok (.ifCond .eq 35, 3) := by decide +kernel
theorem dX3_readProduct_22 : decode cX3_readProduct 22 = .ok (.aload_n 1, 1) := by decide +kernel
theorem dX3_readProduct_23 : decode cX3_readProduct 23 = .ok (.getfield 78, 3) := by decide +kernel
theorem dX3_readProduct_26 : decode cX3_readProduct 26 = .ok (.bipush 42, 2) := by decide +kernel
theorem dX3_readProduct_28 : decode cX3_readProduct 28 = .ok (.if_icmp .ne 26, 3) := by decide +kernel
theorem dX3_readProduct_31 : decode cX3_readProduct 31 = .ok (.aload_n 1, 1) := by decide +kernel
theorem dX3_readProduct_32 : decode cX3_readProduct 32 = .ok (.invokevirtual 57, 3) := by decide +kernel
theorem dX3_readProduct_35 : decode cX3_readProduct 35 = .ok (.aload_n 0, 1) := by decide +kernel
theorem dX3_readProduct_36 : decode cX3_readProduct 36 = .ok (.aload_n 1, 1) := by decide +kernel
theorem dX3_readProduct_37 : decode cX3_readProduct 37 = .ok (.iload_n 2, 1) := by decide +kernel
theorem dX3_readProduct_38 : decode cX3_readProduct 38 = .ok (.invokevirtual 85, 3) := by decide +kernel
theorem dX3_readProduct_41 : decode cX3_readProduct 41 = .ok (.aload_n 0, 1) := by decide +kernel
theorem dX3_readProduct_42 : decode cX3_readProduct 42 = .ok (.sipush 20042, 3) := by decide +kernel
theorem dX3_readProduct_45 : decode cX3_readProduct 45 = .ok (.invokevirtual 81, 3) := by decide +kernel
theorem dX3_readProduct_48 : decode cX3_readProduct 48 = .ok (.iinc 3 1, 3) := by decide +kernel
theorem dX3_readProduct_51 : decode cX3_readProduct 51 = .ok (.goto (-43), 3) := by decide +kernel
theorem dX3_readProduct_54 : decode cX3_readProduct 54 = .ok (.return_, 1) := by decide +kernel
theorem dX3_readFactor_0 : decode cX3_readFactor 0 = .ok (.aload_n 1, 1) := by decide +kernel
theorem dX3_readFactor_1 : decode cX3_readFactor 1 = .ok (.invokestatic 88, 3) := by decide +kernel
theorem dX3_readFactor_4 : decode cX3_readFactor 4 = .ok (.istore_n 3, 1) := by decide +kernel
theorem dX3_readFactor_5 : decode cX3_readFactor 5 = .ok (.iload_n 3, 1) := by decide +kernel
theorem dX3_readFactor_6 : decode cX3_readFactor 6 = .ok (.iconst (-1), 1) := by decide +kernel
theorem dX3_readFactor_7 : decode cX3_readFactor 7 = .ok (.if_icmp .eq 19, 3) := by decide +kernel
theorem dX3_readFactor_10 : decode cX3_readFactor 10 = .ok (.aload_n 0, 1) := by decide +kernel
theorem dX3_readFactor_11 : decode cX3_readFactor 11 = .ok (.sipush 10000, 3) := by decide +kernel
theorem dX3_readFactor_14 : decode cX3_readFactor 14 = .ok (.iload_n 3, 1) := by decide +kernel
theorem dX3_readFactor_15 : decode cX3_readFactor 15 = .ok (.iadd, 1) := by decide +kernel
theorem dX3_readFactor_16 : decode cX3_readFactor 16 = .ok (.invokevirtual 81, 3) := by decide +kernel
theorem dX3_readFactor_19 : decode cX3_readFactor 19 = .ok (.aload_n 1, 1) := by decide +kernel
theorem dX3_readFactor_20 : decode cX3_readFactor 20 = .ok (.invokevirtual 57, 3) := by decide +kernel
theorem dX3_readFactor_23 : decode cX3_readFactor 23 = .ok (.goto 70, 3) := by decide +kernel
theorem dX3_readFactor_26 : decode cX3_readFactor 26 = .ok (.aload_n 1, 1) := by decide +kernel
theorem dX3_readFactor_27 : decode cX3_readFactor 27 = .ok (.getfield 78, 3) := by decide +kernel
theorem dX3_readFactor_30 : decode cX3_readFactor 30 = .ok (.iconst 2, 1) := by decide +kernel
theorem dX3_readFactor_31 : decode cX3_readFactor 31 = .ok (.if_icmp .ne 28, 3) := by decide +kernel
theorem dX3_readFactor_34 : decode cX3_readFactor 34 = .ok (.aload_n 1, 1) := by decide +kernel
theorem dX3_readFactor_35 : decode cX3_readFactor 35 = .ok (.getfield 92, 3) := by decide +kernel
theorem dX3_readFactor_38 : decode cX3_readFactor 38 = .ok (.sipush 9999, 3) := by decide +kernel
theorem dX3_readFactor_41 : decode cX3_readFactor 41 = .ok (.if_icmp .gt 18, 3) := by decide +kernel
theorem dX3_readFactor_44 : decode cX3_readFactor 44 = .ok (.aload_n 0, 1) := by decide +kernel
theorem dX3_readFactor_45 : decode cX3_readFactor 45 = .ok (.aload_n 1, 1) := by decide +kernel
theorem dX3_readFactor_46 : decode cX3_readFactor 46 = .ok (.getfield 92, 3) := by decide +kernel
theorem dX3_readFactor_49 : decode cX3_readFactor 49 = .ok (.invokevirtual 81, 3) := by decide +kernel
theorem dX3_readFactor_52 : decode cX3_readFactor 52 = .ok (.aload_n 1, 1) := by decide +kernel
theorem dX3_readFactor_53 : decode cX3_readFactor 53 = .ok (.invokevirtual 57, 3) := by decide +kernel
theorem dX3_readFactor_56 : decode cX3_readFactor 56 = .ok (.goto 37, 3) := by decide +kernel
theorem dX3_readFactor_59 : decode cX3_readFactor 59 = .ok (.aload_n 1, 1) := by decide +kernel
theorem dX3_readFactor_60 : decode cX3_readFactor 60 = .ok (.getfield 78, 3) := by decide +kernel
theorem dX3_readFactor_63 : decode cX3_readFactor 63 = .ok (.bipush 40, 2) := by decide +kernel
theorem dX3_readFactor_65 : decode cX3_readFactor 65 = .ok (.if_icmp .ne 24, 3) := by decide +kernel
theorem dX3_readFactor_68 : decode cX3_readFactor 68 = .ok (.iload_n 2, 1) := by decide +kernel
theorem dX3_readFactor_69 : decode cX3_readFactor 69 = .ok (.bipush 8, 2) := by decide +kernel
theorem dX3_readFactor_71 : decode cX3_readFactor 71 = .ok (.if_icmp .ge 18, 3) := by decide +kernel
theorem dX3_readFactor_74 : decode cX3_readFactor 74 = .ok (.aload_n 1, 1) := by decide +kernel
theorem dX3_readFactor_75 : decode cX3_readFactor 75 = .ok (.invokevirtual 57, 3) := by decide +kernel
theorem dX3_readFactor_78 : decode cX3_readFactor 78 = .ok (.aload_n 0, 1) := by decide +kernel
theorem dX3_readFactor_79 : decode cX3_readFactor 79 = .ok (.aload_n 1, 1) := by decide +kernel
theorem dX3_readFactor_80 : decode cX3_readFactor 80 = .ok (.iload_n 2, 1) := by decide +kernel
theorem dX3_readFactor_81 : decode cX3_readFactor 81 = .ok (.iconst 1, 1) := by decide +kernel
theorem dX3_readFactor_82 : decode cX3_readFactor 82 = .ok (.iadd, 1) := by decide +kernel
theorem dX3_readFactor_83 : decode cX3_readFactor 83 = .ok (.invokevirtual 95, 3) := by decide +kernel
theorem dX3_readFactor_86 : decode cX3_readFactor 86 = .ok (.goto 7, 3) := by decide +kernel
theorem dX3_readFactor_89 : decode cX3_readFactor 89 = .ok (.aload_n 1, 1) := by decide +kernel
theorem dX3_readFactor_90 : decode cX3_readFactor 90 = .ok (.invokevirtual 45, 3) := by decide +kernel
theorem dX3_readFactor_93 : decode cX3_readFactor 93 = .ok (.return_, 1) := by decide +kernel
theorem dX3_readBrackets_0 : decode cX3_readBrackets 0 = .ok (.aload_n 0, 1) := by decide +kernel
theorem dX3_readBrackets_1 : decode cX3_readBrackets 1 = .ok (.aload_n 1, 1) := by decide +kernel
theorem dX3_readBrackets_2 : decode cX3_readBrackets 2 = .ok (.iload_n 2, 1) := by decide +kernel
theorem dX3_readBrackets_3 : decode cX3_readBrackets 3 = .ok (.invokevirtual 64, 3) := by decide +kernel
theorem dX3_readBrackets_6 : decode cX3_readBrackets 6 = .ok (.aload_n 1, 1) := by decide +kernel
theorem dX3_readBrackets_7 : decode cX3_readBrackets 7 = .ok (.getfield 78, 3) := by decide +kernel
theorem dX3_readBrackets_10 : decode cX3_readBrackets 10 = .ok (.istore_n 3, 1) := by decide +kernel
theorem dX3_readBrackets_11 : decode cX3_readBrackets 11 = .ok (.aload_n 1, 1) := by decide +kernel
theorem dX3_readBrackets_12 : decode cX3_readBrackets 12 = .ok (.invokevirtual 75, 3) := by decide +kernel
theorem dX3_readBrackets_15 : decode cX3_readBrackets 15 = .ok (.ifCond .eq 34, 3) := by decide +kernel
theorem dX3_readBrackets_18 : decode cX3_readBrackets 18 = .ok (.iload_n 3, 1) := by decide +kernel
theorem dX3_readBrackets_19 : decode cX3_readBrackets 19 = .ok (.bipush 60, 2) := by decide +kernel
theorem dX3_readBrackets_21 : decode cX3_readBrackets 21 = .ok (.if_icmp .eq 9, 3) := by decide +kernel
theorem dX3_readBrackets_24 : decode cX3_readBrackets 24 = .ok (.iload_n 3, 1) := by decide +kernel
theorem dX3_readBrackets_25 : decode cX3_readBrackets 25 = .ok (.bipush 61, 2) := by decide +kernel
theorem dX3_readBrackets_27 : decode cX3_readBrackets 27 = .ok (.if_icmp .ne 22, 3) := by decide +kernel
theorem dX3_readBrackets_30 : decode cX3_readBrackets 30 = .ok (.aload_n 1, 1) := by decide +kernel
theorem dX3_readBrackets_31 : decode cX3_readBrackets 31 = .ok (.invokevirtual 57, 3) := by decide +kernel
theorem dX3_readBrackets_34 : decode cX3_readBrackets 34 = .ok (.aload_n 0, 1) := by decide +kernel
theorem dX3_readBrackets_35 : decode cX3_readBrackets 35 = .ok (.aload_n 1, 1) := by decide +kernel
theorem dX3_readBrackets_36 : decode cX3_readBrackets 36 = .ok (.iload_n 2, 1) := by decide +kernel
theorem dX3_readBrackets_37 : decode cX3_readBrackets 37 = .ok (.invokevirtual 64, 3) := by decide +kernel
theorem dX3_readBrackets_40 : decode cX3_readBrackets 40 = .ok (.aload_n 0, 1) := by decide +kernel
theorem dX3_readBrackets_41 : decode cX3_readBrackets 41 = .ok (.sipush 20000, 3) := by decide +kernel
theorem dX3_readBrackets_44 : decode cX3_readBrackets 44 = .ok (.iload_n 3, 1) := by decide +kernel
theorem dX3_readBrackets_45 : decode cX3_readBrackets 45 = .ok (.iadd, 1) := by decide +kernel
theorem dX3_readBrackets_46 : decode cX3_readBrackets 46 = .ok (.invokevirtual 81, 3) := by decide +kernel
theorem dX3_readBrackets_49 : decode cX3_readBrackets 49 = .ok (.aload_n 1, 1) := by decide +kernel
theorem dX3_readBrackets_50 : decode cX3_readBrackets 50 = .ok (.bipush 41, 2) := by decide +kernel
theorem dX3_readBrackets_52 : decode cX3_readBrackets 52 = .ok (.invokevirtual 68, 3) := by decide +kernel
theorem dX3_readBrackets_55 : decode cX3_readBrackets 55 = .ok (.pop, 1) := by decide +kernel
theorem dX3_readBrackets_56 : decode cX3_readBrackets 56 = .ok (.return_, 1) := by decide +kernel
theorem dX3_write_0 : decode cX3_write 0 = .ok (.aload_n 0, 1) := by decide +kernel
theorem dX3_write_1 : decode cX3_write 1 = .ok (.getfield 29, 3) := by decide +kernel
theorem dX3_write_4 : decode cX3_write 4 = .ok (.ifCond .lt 33, 3) := by decide +kernel
theorem dX3_write_7 : decode cX3_write 7 = .ok (.aload_n 0, 1) := by decide +kernel
theorem dX3_write_8 : decode cX3_write 8 = .ok (.getfield 29, 3) := by decide +kernel
theorem dX3_write_11 : decode cX3_write 11 = .ok (.sipush 500, 3) := by decide +kernel
theorem dX3_write_14 : decode cX3_write 14 = .ok (.if_icmp .ge 23, 3) := by decide +kernel
theorem dX3_write_17 : decode cX3_write 17 = .ok (.aload_n 0, 1) := by decide +kernel
theorem dX3_write_18 : decode cX3_write 18 = .ok (.getfield 9, 3) := by decide +kernel
theorem dX3_write_21 : decode cX3_write 21 = .ok (.aload_n 0, 1) := by decide +kernel
theorem dX3_write_22 : decode cX3_write 22 = .ok (.getfield 29, 3) := by decide +kernel
theorem dX3_write_25 : decode cX3_write 25 = .ok (.iload_n 1, 1) := by decide +kernel
theorem dX3_write_26 : decode cX3_write 26 = .ok (.iastore, 1) := by decide +kernel
theorem dX3_write_27 : decode cX3_write 27 = .ok (.aload_n 0, 1) := by decide +kernel
theorem dX3_write_28 : decode cX3_write 28 = .ok (.dup, 1) := by decide +kernel
theorem dX3_write_29 : decode cX3_write 29 = .ok (.getfield 29, 3) := by decide +kernel
theorem dX3_write_32 : decode cX3_write 32 = .ok (.iconst 1, 1) := by decide +kernel
theorem dX3_write_33 : decode cX3_write 33 = .ok (.iadd, 1) := by decide +kernel
theorem dX3_write_34 : decode cX3_write 34 = .ok (.putfield 29, 3) := by decide +kernel
theorem dX3_write_37 : decode cX3_write 37 = .ok (.return_, 1) := by decide +kernel
theorem dX3_nameInHand_0 : decode cX3_nameInHand 0 = .ok (.aload_n 0, 1) := by decide +kernel
theorem dX3_nameInHand_1 : decode cX3_nameInHand 1 = .ok (.ldc 98, 2) := by decide +kernel
theorem dX3_nameInHand_3 : decode cX3_nameInHand 3 = .ok (.invokevirtual 53, 3) := by decide +kernel
theorem dX3_nameInHand_6 : decode cX3_nameInHand 6 = .ok (.ifCond .eq 5, 3) := by decide +kernel
theorem dX3_nameInHand_9 : decode cX3_nameInHand 9 = .ok (.iconst 0, 1) := by decide +kernel
theorem dX3_nameInHand_10 : decode cX3_nameInHand 10 = .ok (.ireturn, 1) := by decide +kernel
theorem dX3_nameInHand_11 : decode cX3_nameInHand 11 = .ok (.aload_n 0, 1) := by decide +kernel
theorem dX3_nameInHand_12 : decode cX3_nameInHand 12 = .ok (.ldc 102, 2) := by decide +kernel
theorem dX3_nameInHand_14 : decode cX3_nameInHand 14 = .ok (.invokevirtual 53, 3) := by decide +kernel
theorem dX3_nameInHand_17 : decode cX3_nameInHand 17 = .ok (.ifCond .eq 5, 3) := by decide +kernel
theorem dX3_nameInHand_20 : decode cX3_nameInHand 20 = .ok (.iconst 1, 1) := by decide +kernel
theorem dX3_nameInHand_21 : decode cX3_nameInHand 21 = .ok (.ireturn, 1) := by decide +kernel
theorem dX3_nameInHand_22 : decode cX3_nameInHand 22 = .ok (.aload_n 0, 1) := by decide +kernel
theorem dX3_nameInHand_23 : decode cX3_nameInHand 23 = .ok (.ldc 104, 2) := by decide +kernel
theorem dX3_nameInHand_25 : decode cX3_nameInHand 25 = .ok (.invokevirtual 53, 3) := by decide +kernel
theorem dX3_nameInHand_28 : decode cX3_nameInHand 28 = .ok (.ifCond .eq 5, 3) := by decide +kernel
theorem dX3_nameInHand_31 : decode cX3_nameInHand 31 = .ok (.iconst 2, 1) := by decide +kernel
theorem dX3_nameInHand_32 : decode cX3_nameInHand 32 = .ok (.ireturn, 1) := by decide +kernel
theorem dX3_nameInHand_33 : decode cX3_nameInHand 33 = .ok (.aload_n 0, 1) := by decide +kernel
theorem dX3_nameInHand_34 : decode cX3_nameInHand 34 = .ok (.ldc 106, 2) := by decide +kernel
theorem dX3_nameInHand_36 : decode cX3_nameInHand 36 = .ok (.invokevirtual 53, 3) := by decide +kernel
theorem dX3_nameInHand_39 : decode cX3_nameInHand 39 = .ok (.ifCond .eq 5, 3) := by decide +kernel
theorem dX3_nameInHand_42 : decode cX3_nameInHand 42 = .ok (.iconst 3, 1) := by decide +kernel
theorem dX3_nameInHand_43 : decode cX3_nameInHand 43 = .ok (.ireturn, 1) := by decide +kernel
theorem dX3_nameInHand_44 : decode cX3_nameInHand 44 = .ok (.aload_n 0, 1) := by decide +kernel
theorem dX3_nameInHand_45 : decode cX3_nameInHand 45 = .ok (.ldc 108, 2) := by decide +kernel
theorem dX3_nameInHand_47 : decode cX3_nameInHand 47 = .ok (.invokevirtual 53, 3) := by decide +kernel
theorem dX3_nameInHand_50 : decode cX3_nameInHand 50 = .ok (.ifCond .eq 5, 3) := by decide +kernel
theorem dX3_nameInHand_53 : decode cX3_nameInHand 53 = .ok (.iconst 4, 1) := by decide +kernel
theorem dX3_nameInHand_54 : decode cX3_nameInHand 54 = .ok (.ireturn, 1) := by decide +kernel
theorem dX3_nameInHand_55 : decode cX3_nameInHand 55 = .ok (.aload_n 0, 1) := by decide +kernel
theorem dX3_nameInHand_56 : decode cX3_nameInHand 56 = .ok (.ldc 110, 2) := by decide +kernel
theorem dX3_nameInHand_58 : decode cX3_nameInHand 58 = .ok (.invokevirtual 53, 3) := by decide +kernel
theorem dX3_nameInHand_61 : decode cX3_nameInHand 61 = .ok (.ifCond .eq 5, 3) := by decide +kernel
theorem dX3_nameInHand_64 : decode cX3_nameInHand 64 = .ok (.iconst 5, 1) := by decide +kernel
theorem dX3_nameInHand_65 : decode cX3_nameInHand 65 = .ok (.ireturn, 1) := by decide +kernel
theorem dX3_nameInHand_66 : decode cX3_nameInHand 66 = .ok (.aload_n 0, 1) := by decide +kernel
theorem dX3_nameInHand_67 : decode cX3_nameInHand 67 = .ok (.ldc 112, 2) := by decide +kernel
theorem dX3_nameInHand_69 : decode cX3_nameInHand 69 = .ok (.invokevirtual 53, 3) := by decide +kernel
theorem dX3_nameInHand_72 : decode cX3_nameInHand 72 = .ok (.ifCond .eq 6, 3) := by decide +kernel
theorem dX3_nameInHand_75 : decode cX3_nameInHand 75 = .ok (.bipush 6, 2) := by decide +kernel
theorem dX3_nameInHand_77 : decode cX3_nameInHand 77 = .ok (.ireturn, 1) := by decide +kernel
theorem dX3_nameInHand_78 : decode cX3_nameInHand 78 = .ok (.aload_n 0, 1) := by decide +kernel
theorem dX3_nameInHand_79 : decode cX3_nameInHand 79 = .ok (.ldc 114, 2) := by decide +kernel
theorem dX3_nameInHand_81 : decode cX3_nameInHand 81 = .ok (.invokevirtual 53, 3) := by decide +kernel
theorem dX3_nameInHand_84 : decode cX3_nameInHand 84 = .ok (.ifCond .eq 6, 3) := by decide +kernel
theorem dX3_nameInHand_87 : decode cX3_nameInHand 87 = .ok (.bipush 7, 2) := by decide +kernel
theorem dX3_nameInHand_89 : decode cX3_nameInHand 89 = .ok (.ireturn, 1) := by decide +kernel
theorem dX3_nameInHand_90 : decode cX3_nameInHand 90 = .ok (.aload_n 0, 1) := by decide +kernel
theorem dX3_nameInHand_91 : decode cX3_nameInHand 91 = .ok (.ldc 116, 2) := by decide +kernel
theorem dX3_nameInHand_93 : decode cX3_nameInHand 93 = .ok (.invokevirtual 53, 3) := by decide +kernel
theorem dX3_nameInHand_96 : decode cX3_nameInHand 96 = .ok (.ifCond .eq 6, 3) := by decide +kernel
theorem dX3_nameInHand_99 : decode cX3_nameInHand 99 = .ok (.bipush 8, 2) := by decide +kernel
theorem dX3_nameInHand_101 : decode cX3_nameInHand 101 = .ok (.ireturn, 1) := by decide +kernel
theorem dX3_nameInHand_102 : decode cX3_nameInHand 102 = .ok (.aload_n 0, 1) := by decide +kernel
theorem dX3_nameInHand_103 : decode cX3_nameInHand 103 = .ok (.ldc 118, 2) := by decide +kernel
theorem dX3_nameInHand_105 : decode cX3_nameInHand 105 = .ok (.invokevirtual 53, 3) := by decide +kernel
theorem dX3_nameInHand_108 : decode cX3_nameInHand 108 = .ok (.ifCond .eq 8, 3) := by decide +kernel
theorem dX3_nameInHand_111 : decode cX3_nameInHand 111 = .ok (.bipush 9, 2) := by decide +kernel
theorem dX3_nameInHand_113 : decode cX3_nameInHand 113 = .ok (.goto 4, 3) := by decide +kernel
theorem dX3_nameInHand_116 : decode cX3_nameInHand 116 = .ok (.iconst (-1), 1) := by decide +kernel
theorem dX3_nameInHand_117 : decode cX3_nameInHand 117 = .ok (.ireturn, 1) := by decide +kernel
theorem dX3_takeOver_0 : decode cX3_takeOver 0 = .ok (.aload_n 1, 1) := by decide +kernel
theorem dX3_takeOver_1 : decode cX3_takeOver 1 = .ok (.getfield 9, 3) := by decide +kernel
theorem dX3_takeOver_4 : decode cX3_takeOver 4 = .ok (.iconst 0, 1) := by decide +kernel
theorem dX3_takeOver_5 : decode cX3_takeOver 5 = .ok (.aload_n 0, 1) := by decide +kernel
theorem dX3_takeOver_6 : decode cX3_takeOver 6 = .ok (.getfield 9, 3) := by decide +kernel
theorem dX3_takeOver_9 : decode cX3_takeOver 9 = .ok (.iconst 0, 1) := by decide +kernel
theorem dX3_takeOver_10 : decode cX3_takeOver 10 = .ok (.sipush 500, 3) := by decide +kernel
theorem dX3_takeOver_13 : decode cX3_takeOver 13 = .ok (.invokestatic 120, 3) := by decide +kernel
theorem dX3_takeOver_16 : decode cX3_takeOver 16 = .ok (.aload_n 1, 1) := by decide +kernel
theorem dX3_takeOver_17 : decode cX3_takeOver 17 = .ok (.getfield 15, 3) := by decide +kernel
theorem dX3_takeOver_20 : decode cX3_takeOver 20 = .ok (.iconst 0, 1) := by decide +kernel
theorem dX3_takeOver_21 : decode cX3_takeOver 21 = .ok (.aload_n 0, 1) := by decide +kernel
theorem dX3_takeOver_22 : decode cX3_takeOver 22 = .ok (.getfield 15, 3) := by decide +kernel
theorem dX3_takeOver_25 : decode cX3_takeOver 25 = .ok (.iconst 0, 1) := by decide +kernel
theorem dX3_takeOver_26 : decode cX3_takeOver 26 = .ok (.iconst 5, 1) := by decide +kernel
theorem dX3_takeOver_27 : decode cX3_takeOver 27 = .ok (.invokestatic 120, 3) := by decide +kernel
theorem dX3_takeOver_30 : decode cX3_takeOver 30 = .ok (.iconst 0, 1) := by decide +kernel
theorem dX3_takeOver_31 : decode cX3_takeOver 31 = .ok (.istore_n 2, 1) := by decide +kernel
theorem dX3_takeOver_32 : decode cX3_takeOver 32 = .ok (.iload_n 2, 1) := by decide +kernel
theorem dX3_takeOver_33 : decode cX3_takeOver 33 = .ok (.iconst 5, 1) := by decide +kernel
theorem dX3_takeOver_34 : decode cX3_takeOver 34 = .ok (.if_icmp .ge 21, 3) := by decide +kernel
theorem dX3_takeOver_37 : decode cX3_takeOver 37 = .ok (.aload_n 0, 1) := by decide +kernel
theorem dX3_takeOver_38 : decode cX3_takeOver 38 = .ok (.getfield 18, 3) := by decide +kernel
theorem dX3_takeOver_41 : decode cX3_takeOver 41 = .ok (.iload_n 2, 1) := by decide +kernel
theorem dX3_takeOver_42 : decode cX3_takeOver 42 = .ok (.aload_n 1, 1) := by decide +kernel
theorem dX3_takeOver_43 : decode cX3_takeOver 43 = .ok (.getfield 18, 3) := by decide +kernel
theorem dX3_takeOver_46 : decode cX3_takeOver 46 = .ok (.iload_n 2, 1) := by decide +kernel
theorem dX3_takeOver_47 : decode cX3_takeOver 47 = .ok (.baload, 1) := by decide +kernel
theorem dX3_takeOver_48 : decode cX3_takeOver 48 = .ok (.bastore, 1) := by decide +kernel
theorem dX3_takeOver_49 : decode cX3_takeOver 49 = .ok (.iinc 2 1, 3) := by decide +kernel
theorem dX3_takeOver_52 : decode cX3_takeOver 52 = .ok (.goto (-20), 3) := by decide +kernel
theorem dX3_takeOver_55 : decode cX3_takeOver 55 = .ok (.aload_n 0, 1) := by decide +kernel
theorem dX3_takeOver_56 : decode cX3_takeOver 56 = .ok (.aload_n 1, 1) := by decide +kernel
theorem dX3_takeOver_57 : decode cX3_takeOver 57 = .ok (.getfield 25, 3) := by decide +kernel
theorem dX3_takeOver_60 : decode cX3_takeOver 60 = .ok (.putfield 25, 3) := by decide +kernel
theorem dX3_takeOver_63 : decode cX3_takeOver 63 = .ok (.aload_n 0, 1) := by decide +kernel
theorem dX3_takeOver_64 : decode cX3_takeOver 64 = .ok (.aload_n 1, 1) := by decide +kernel
theorem dX3_takeOver_65 : decode cX3_takeOver 65 = .ok (.getfield 29, 3) := by decide +kernel
theorem dX3_takeOver_68 : decode cX3_takeOver 68 = .ok (.putfield 29, 3) := by decide +kernel
theorem dX3_takeOver_71 : decode cX3_takeOver 71 = .ok (.return_, 1) := by decide +kernel
theorem dX3_isTold_0 : decode cX3_isTold 0 = .ok (.iload_n 1, 1) := by decide +kernel
theorem dX3_isTold_1 : decode cX3_isTold 1 = .ok (.iconst 4, 1) := by decide +kernel
theorem dX3_isTold_2 : decode cX3_isTold 2 = .ok (.if_icmp .lt 24, 3) := by decide +kernel
theorem dX3_isTold_5 : decode cX3_isTold 5 = .ok (.iload_n 1, 1) := by decide +kernel
theorem dX3_isTold_6 : decode cX3_isTold 6 = .ok (.iconst 4, 1) := by decide +kernel
theorem dX3_isTold_7 : decode cX3_isTold 7 = .ok (.isub, 1) := by decide +kernel
theorem dX3_isTold_8 : decode cX3_isTold 8 = .ok (.aload_n 0, 1) := by decide +kernel
theorem dX3_isTold_9 : decode cX3_isTold 9 = .ok (.getfield 25, 3) := by decide +kernel
theorem dX3_isTold_12 : decode cX3_isTold 12 = .ok (.if_icmp .ge 14, 3) := by decide +kernel
theorem dX3_isTold_15 : decode cX3_isTold 15 = .ok (.iload_n 1, 1) := by decide +kernel
theorem dX3_isTold_16 : decode cX3_isTold 16 = .ok (.iconst 4, 1) := by decide +kernel
theorem dX3_isTold_17 : decode cX3_isTold 17 = .ok (.isub, 1) := by decide +kernel
theorem dX3_isTold_18 : decode cX3_isTold 18 = .ok (.iconst 5, 1) := by decide +kernel
theorem dX3_isTold_19 : decode cX3_isTold 19 = .ok (.if_icmp .ge 7, 3) := by decide +kernel
theorem dX3_isTold_22 : decode cX3_isTold 22 = .ok (.iconst 1, 1) := by decide +kernel
theorem dX3_isTold_23 : decode cX3_isTold 23 = .ok (.goto 4, 3) := by decide +kernel
theorem dX3_isTold_26 : decode cX3_isTold 26 = .ok (.iconst 0, 1) := by decide +kernel
theorem dX3_isTold_27 : decode cX3_isTold 27 = .ok (.ireturn, 1) := by decide +kernel
theorem dX3_placeOfNext_0 : decode cX3_placeOfNext 0 = .ok (.aload_n 0, 1) := by decide +kernel
theorem dX3_placeOfNext_1 : decode cX3_placeOfNext 1 = .ok (.iload_n 1, 1) := by decide +kernel
theorem dX3_placeOfNext_2 : decode cX3_placeOfNext 2 = .ok (.invokevirtual 126, 3) := by decide +kernel
theorem dX3_placeOfNext_5 : decode cX3_placeOfNext 5 = .ok (.ifCond .ne 12, 3) := by decide +kernel
theorem dX3_placeOfNext_8 : decode cX3_placeOfNext 8 = .ok (.iconst 1, 1) := by decide +kernel
theorem dX3_placeOfNext_9 : decode cX3_placeOfNext 9 = .ok (.aload_n 2, 1) := by decide +kernel
theorem dX3_placeOfNext_10 : decode cX3_placeOfNext 10 = .ok (.getfield 130, 3) := by decide +kernel
theorem dX3_placeOfNext_13 : decode cX3_placeOfNext 13 = .ok (.invokestatic 133, 3) := by decide +kernel
theorem dX3_placeOfNext_16 : decode cX3_placeOfNext 16 = .ok (.ireturn, 1) := by decide +kernel
theorem dX3_placeOfNext_17 : decode cX3_placeOfNext 17 = .ok (.iload_n 1, 1) := by decide +kernel
theorem dX3_placeOfNext_18 : decode cX3_placeOfNext 18 = .ok (.iconst 4, 1) := by decide +kernel
theorem dX3_placeOfNext_19 : decode cX3_placeOfNext 19 = .ok (.isub, 1) := by decide +kernel
theorem dX3_placeOfNext_20 : decode cX3_placeOfNext 20 = .ok (.istore_n 3, 1) := by decide +kernel
theorem dX3_placeOfNext_21 : decode cX3_placeOfNext 21 = .ok (.iconst (-1), 1) := by decide +kernel
theorem dX3_placeOfNext_22 : decode cX3_placeOfNext 22 = .ok (.istore 4, 2) := by decide +kernel
theorem dX3_placeOfNext_24 : decode cX3_placeOfNext 24 = .ok (.iconst 0, 1) := by decide +kernel
theorem dX3_placeOfNext_25 : decode cX3_placeOfNext 25 = .ok (.istore 5, 2) := by decide +kernel
theorem dX3_placeOfNext_27 : decode cX3_placeOfNext 27 = .ok (.iconst 0, 1) := by decide +kernel
theorem dX3_placeOfNext_28 : decode cX3_placeOfNext 28 = .ok (.istore 6, 2) := by decide +kernel
theorem dX3_placeOfNext_30 : decode cX3_placeOfNext 30 = .ok (.iload 6, 2) := by decide +kernel
theorem dX3_placeOfNext_32 : decode cX3_placeOfNext 32 = .ok (.aload_n 2, 1) := by decide +kernel
theorem dX3_placeOfNext_33 : decode cX3_placeOfNext 33 = .ok (.getfield 130, 3) := by decide +kernel
theorem dX3_placeOfNext_36 : decode cX3_placeOfNext 36 = .ok (.if_icmp .ge 76, 3) := by decide +kernel
theorem dX3_placeOfNext_39 : decode cX3_placeOfNext 39 = .ok (.aload_n 0, 1) := by decide +kernel
theorem dX3_placeOfNext_40 : decode cX3_placeOfNext 40 = .ok (.iload_n 3, 1) := by decide +kernel
theorem dX3_placeOfNext_41 : decode cX3_placeOfNext 41 = .ok (.aload_n 2, 1) := by decide +kernel
theorem dX3_placeOfNext_42 : decode cX3_placeOfNext 42 = .ok (.iload 6, 2) := by decide +kernel
theorem dX3_placeOfNext_44 : decode cX3_placeOfNext 44 = .ok (.invokevirtual 137, 3) := by decide +kernel
theorem dX3_placeOfNext_47 : decode cX3_placeOfNext 47 = .ok (.istore 7, 2) := by decide +kernel
theorem dX3_placeOfNext_49 : decode cX3_placeOfNext 49 = .ok (.aload_n 0, 1) := by decide +kernel
theorem dX3_placeOfNext_50 : decode cX3_placeOfNext 50 = .ok (.getfield 18, 3) := by decide +kernel
theorem dX3_placeOfNext_53 : decode cX3_placeOfNext 53 = .ok (.iload_n 3, 1) := by decide +kernel
theorem dX3_placeOfNext_54 : decode cX3_placeOfNext 54 = .ok (.baload, 1) := by decide +kernel
theorem dX3_placeOfNext_55 : decode cX3_placeOfNext 55 = .ok (.ifCond .eq 18, 3) := by decide +kernel
theorem dX3_placeOfNext_58 : decode cX3_placeOfNext 58 = .ok (.iload 7, 2) := by decide +kernel
theorem dX3_placeOfNext_60 : decode cX3_placeOfNext 60 = .ok (.iload 5, 2) := by decide +kernel
theorem dX3_placeOfNext_62 : decode cX3_placeOfNext 62 = .ok (.if_icmp .lt 7, 3) := by decide +kernel
theorem dX3_placeOfNext_65 : decode cX3_placeOfNext 65 = .ok (.iconst 1, 1) := by decide +kernel
theorem dX3_placeOfNext_66 : decode cX3_placeOfNext 66 = .ok (.goto 19, 3) := by decide +kernel
theorem dX3_placeOfNext_69 : decode cX3_placeOfNext 69 = .ok (.iconst 0, 1) := by decide +kernel
theorem dX3_placeOfNext_70 : decode cX3_placeOfNext 70 = .ok (.goto 15, 3) := by decide +kernel
theorem dX3_placeOfNext_73 : decode cX3_placeOfNext 73 = .ok (.iload 7, 2) := by decide +kernel
theorem dX3_placeOfNext_75 : decode cX3_placeOfNext 75 = .ok (.iload 5, 2) := by decide +kernel
theorem dX3_placeOfNext_77 : decode cX3_placeOfNext 77 = .ok (.if_icmp .gt 7, 3) := by decide +kernel
theorem dX3_placeOfNext_80 : decode cX3_placeOfNext 80 = .ok (.iconst 1, 1) := by decide +kernel
theorem dX3_placeOfNext_81 : decode cX3_placeOfNext 81 = .ok (.goto 4, 3) := by decide +kernel
theorem dX3_placeOfNext_84 : decode cX3_placeOfNext 84 = .ok (.iconst 0, 1) := by decide +kernel
theorem dX3_placeOfNext_85 : decode cX3_placeOfNext 85 = .ok (.istore 8, 2) := by decide +kernel
theorem dX3_placeOfNext_87 : decode cX3_placeOfNext 87 = .ok (.iload 4, 2) := by decide +kernel
theorem dX3_placeOfNext_89 : decode cX3_placeOfNext 89 = .ok (.iconst (-1), 1) := by decide +kernel
theorem dX3_placeOfNext_90 : decode cX3_placeOfNext 90 = .ok (.if_icmp .eq 8, 3) := by decide +kernel
theorem dX3_placeOfNext_93 : decode cX3_placeOfNext 93 = .ok (.iload 8, 2) := by decide +kernel
theorem dX3_placeOfNext_95 : decode cX3_placeOfNext 95 = .ok (.ifCond .eq 11, 3) := by decide +kernel
theorem dX3_placeOfNext_98 : decode cX3_placeOfNext 98 = .ok (.iload 6, 2) := by decide +kernel
theorem dX3_placeOfNext_100 : decode cX3_placeOfNext 100 = .ok (.istore 4, 2) := by decide +kernel
theorem dX3_placeOfNext_102 : decode cX3_placeOfNext 102 = .ok (.iload 7, 2) := by decide +kernel
theorem dX3_placeOfNext_104 : decode cX3_placeOfNext 104 = .ok (.istore 5, 2) := by decide +kernel
theorem dX3_placeOfNext_106 : decode cX3_placeOfNext 106 = .ok (.iinc 6 1, 3) := by decide +kernel
theorem dX3_placeOfNext_109 : decode cX3_placeOfNext 109 = .ok (.goto (-79), 3) := by decide +kernel
theorem dX3_placeOfNext_112 : decode cX3_placeOfNext 112 = .ok (.iload 4, 2) := by decide +kernel
theorem dX3_placeOfNext_114 : decode cX3_placeOfNext 114 = .ok (.ireturn, 1) := by decide +kernel
theorem dX3_work_0 : decode cX3_work 0 = .ok (.aload_n 0, 1) := by decide +kernel
theorem dX3_work_1 : decode cX3_work 1 = .ok (.iconst 0, 1) := by decide +kernel
theorem dX3_work_2 : decode cX3_work 2 = .ok (.putfield 141, 3) := by decide +kernel
theorem dX3_work_5 : decode cX3_work 5 = .ok (.aload_n 0, 1) := by decide +kernel
theorem dX3_work_6 : decode cX3_work 6 = .ok (.iload_n 1, 1) := by decide +kernel
theorem dX3_work_7 : decode cX3_work 7 = .ok (.invokevirtual 144, 3) := by decide +kernel
theorem dX3_work_10 : decode cX3_work 10 = .ok (.sipush 500, 3) := by decide +kernel
theorem dX3_work_13 : decode cX3_work 13 = .ok (.invokestatic 148, 3) := by decide +kernel
theorem dX3_work_16 : decode cX3_work 16 = .ok (.istore 4, 2) := by decide +kernel
theorem dX3_work_18 : decode cX3_work 18 = .ok (.aload_n 0, 1) := by decide +kernel
theorem dX3_work_19 : decode cX3_work 19 = .ok (.iload_n 1, 1) := by decide +kernel
theorem dX3_work_20 : decode cX3_work 20 = .ok (.iconst 1, 1) := by decide +kernel
theorem dX3_work_21 : decode cX3_work 21 = .ok (.isub, 1) := by decide +kernel
theorem dX3_work_22 : decode cX3_work 22 = .ok (.invokevirtual 144, 3) := by decide +kernel
theorem dX3_work_25 : decode cX3_work 25 = .ok (.iconst 0, 1) := by decide +kernel
theorem dX3_work_26 : decode cX3_work 26 = .ok (.invokestatic 153, 3) := by decide +kernel
theorem dX3_work_29 : decode cX3_work 29 = .ok (.istore 5, 2) := by decide +kernel
theorem dX3_work_31 : decode cX3_work 31 = .ok (.iload 5, 2) := by decide +kernel
theorem dX3_work_33 : decode cX3_work 33 = .ok (.iload 4, 2) := by decide +kernel
theorem dX3_work_35 : decode cX3_work 35 = .ok (.if_icmp .ge 84, 3) := by decide +kernel
theorem dX3_work_38 : decode cX3_work 38 = .ok (.aload_n 0, 1) := by decide +kernel
theorem dX3_work_39 : decode cX3_work 39 = .ok (.getfield 9, 3) := by decide +kernel
theorem dX3_work_42 : decode cX3_work 42 = .ok (.iload 5, 2) := by decide +kernel
theorem dX3_work_44 : decode cX3_work 44 = .ok (.iaload, 1) := by decide +kernel
theorem dX3_work_45 : decode cX3_work 45 = .ok (.istore 6, 2) := by decide +kernel
theorem dX3_work_47 : decode cX3_work 47 = .ok (.iload 6, 2) := by decide +kernel
theorem dX3_work_49 : decode cX3_work 49 = .ok (.sipush 20000, 3) := by decide +kernel
theorem dX3_work_52 : decode cX3_work 52 = .ok (.if_icmp .lt 33, 3) := by decide +kernel
theorem dX3_work_55 : decode cX3_work 55 = .ok (.aload_n 0, 1) := by decide +kernel
theorem dX3_work_56 : decode cX3_work 56 = .ok (.invokevirtual 156, 3) := by decide +kernel
theorem dX3_work_59 : decode cX3_work 59 = .ok (.istore 7, 2) := by decide +kernel
theorem dX3_work_61 : decode cX3_work 61 = .ok (.aload_n 0, 1) := by decide +kernel
theorem dX3_work_62 : decode cX3_work 62 = .ok (.iload 6, 2) := by decide +kernel
theorem dX3_work_64 : decode cX3_work 64 = .ok (.sipush 20000, 3) := by decide +kernel
theorem dX3_work_67 : decode cX3_work 67 = .ok (.isub, 1) := by decide +kernel
theorem dX3_work_68 : decode cX3_work 68 = .ok (.aload_n 0, 1) := by decide +kernel
theorem dX3_work_69 : decode cX3_work 69 = .ok (.invokevirtual 156, 3) := by decide +kernel
theorem dX3_work_72 : decode cX3_work 72 = .ok (.i2l, 1) := by decide +kernel
theorem dX3_work_73 : decode cX3_work 73 = .ok (.iload 7, 2) := by decide +kernel
theorem dX3_work_75 : decode cX3_work 75 = .ok (.i2l, 1) := by decide +kernel
theorem dX3_work_76 : decode cX3_work 76 = .ok (.invokestatic 160, 3) := by decide +kernel
theorem dX3_work_79 : decode cX3_work 79 = .ok (.invokevirtual 164, 3) := by decide +kernel
theorem dX3_work_82 : decode cX3_work 82 = .ok (.goto 31, 3) := by decide +kernel
theorem dX3_work_85 : decode cX3_work 85 = .ok (.aload_n 0, 1) := by decide +kernel
theorem dX3_work_86 : decode cX3_work 86 = .ok (.iload 6, 2) := by decide +kernel
theorem dX3_work_88 : decode cX3_work 88 = .ok (.sipush 10000, 3) := by decide +kernel
theorem dX3_work_91 : decode cX3_work 91 = .ok (.if_icmp .lt 17, 3) := by decide +kernel
theorem dX3_work_94 : decode cX3_work 94 = .ok (.aload_n 2, 1) := by decide +kernel
theorem dX3_work_95 : decode cX3_work 95 = .ok (.iload 6, 2) := by decide +kernel
theorem dX3_work_97 : decode cX3_work 97 = .ok (.sipush 10000, 3) := by decide +kernel
theorem dX3_work_100 : decode cX3_work 100 = .ok (.isub, 1) := by decide +kernel
theorem dX3_work_101 : decode cX3_work 101 = .ok (.iload_n 3, 1) := by decide +kernel
theorem dX3_work_102 : decode cX3_work 102 = .ok (.invokevirtual 167, 3) := by decide +kernel
theorem dX3_work_105 : decode cX3_work 105 = .ok (.goto 5, 3) := by decide +kernel
theorem dX3_work_108 : decode cX3_work 108 = .ok (.iload 6, 2) := by decide +kernel
theorem dX3_work_110 : decode cX3_work 110 = .ok (.invokevirtual 164, 3) := by decide +kernel
theorem dX3_work_113 : decode cX3_work 113 = .ok (.iinc 5 1, 3) := by decide +kernel
theorem dX3_work_116 : decode cX3_work 116 = .ok (.goto (-85), 3) := by decide +kernel
theorem dX3_work_119 : decode cX3_work 119 = .ok (.aload_n 0, 1) := by decide +kernel
theorem dX3_work_120 : decode cX3_work 120 = .ok (.invokevirtual 156, 3) := by decide +kernel
theorem dX3_work_123 : decode cX3_work 123 = .ok (.ireturn, 1) := by decide +kernel
theorem dX3_endAt_0 : decode cX3_endAt 0 = .ok (.iload_n 1, 1) := by decide +kernel
theorem dX3_endAt_1 : decode cX3_endAt 1 = .ok (.ifCond .lt 17, 3) := by decide +kernel
theorem dX3_endAt_4 : decode cX3_endAt 4 = .ok (.iload_n 1, 1) := by decide +kernel
theorem dX3_endAt_5 : decode cX3_endAt 5 = .ok (.iconst 5, 1) := by decide +kernel
theorem dX3_endAt_6 : decode cX3_endAt 6 = .ok (.if_icmp .ge 12, 3) := by decide +kernel
theorem dX3_endAt_9 : decode cX3_endAt 9 = .ok (.aload_n 0, 1) := by decide +kernel
theorem dX3_endAt_10 : decode cX3_endAt 10 = .ok (.getfield 15, 3) := by decide +kernel
theorem dX3_endAt_13 : decode cX3_endAt 13 = .ok (.iload_n 1, 1) := by decide +kernel
theorem dX3_endAt_14 : decode cX3_endAt 14 = .ok (.iaload, 1) := by decide +kernel
theorem dX3_endAt_15 : decode cX3_endAt 15 = .ok (.goto 4, 3) := by decide +kernel
theorem dX3_endAt_18 : decode cX3_endAt 18 = .ok (.iconst 0, 1) := by decide +kernel
theorem dX3_endAt_19 : decode cX3_endAt 19 = .ok (.ireturn, 1) := by decide +kernel
theorem dX3_joined_0 : decode cX3_joined 0 = .ok (.iload_n 0, 1) := by decide +kernel
theorem dX3_joined_1 : decode cX3_joined 1 = .ok (.lookupswitch 76 #[(42, 57), (43, 43), (45, 50), (60, 64)], 43) := by decide +kernel
theorem dX3_joined_44 : decode cX3_joined 44 = .ok (.lload_n 1, 1) := by decide +kernel
theorem dX3_joined_45 : decode cX3_joined 45 = .ok (.lload_n 3, 1) := by decide +kernel
theorem dX3_joined_46 : decode cX3_joined 46 = .ok (.ladd, 1) := by decide +kernel
theorem dX3_joined_47 : decode cX3_joined 47 = .ok (.invokestatic 170, 3) := by decide +kernel
theorem dX3_joined_50 : decode cX3_joined 50 = .ok (.ireturn, 1) := by decide +kernel
theorem dX3_joined_51 : decode cX3_joined 51 = .ok (.lload_n 1, 1) := by decide +kernel
theorem dX3_joined_52 : decode cX3_joined 52 = .ok (.lload_n 3, 1) := by decide +kernel
theorem dX3_joined_53 : decode cX3_joined 53 = .ok (.lsub, 1) := by decide +kernel
theorem dX3_joined_54 : decode cX3_joined 54 = .ok (.invokestatic 170, 3) := by decide +kernel
theorem dX3_joined_57 : decode cX3_joined 57 = .ok (.ireturn, 1) := by decide +kernel
theorem dX3_joined_58 : decode cX3_joined 58 = .ok (.lload_n 1, 1) := by decide +kernel
theorem dX3_joined_59 : decode cX3_joined 59 = .ok (.lload_n 3, 1) := by decide +kernel
theorem dX3_joined_60 : decode cX3_joined 60 = .ok (.lmul, 1) := by decide +kernel
theorem dX3_joined_61 : decode cX3_joined 61 = .ok (.invokestatic 170, 3) := by decide +kernel
theorem dX3_joined_64 : decode cX3_joined 64 = .ok (.ireturn, 1) := by decide +kernel
theorem dX3_joined_65 : decode cX3_joined 65 = .ok (.lload_n 1, 1) := by decide +kernel
theorem dX3_joined_66 : decode cX3_joined 66 = .ok (.lload_n 3, 1) := by decide +kernel
theorem dX3_joined_67 : decode cX3_joined 67 = .ok (.lcmp, 1) := by decide +kernel
theorem dX3_joined_68 : decode cX3_joined 68 = .ok (.ifCond .ge 7, 3) := by decide +kernel
theorem dX3_joined_71 : decode cX3_joined 71 = .ok (.iconst 1, 1) := by decide +kernel
theorem dX3_joined_72 : decode cX3_joined 72 = .ok (.goto 4, 3) := by decide +kernel
theorem dX3_joined_75 : decode cX3_joined 75 = .ok (.iconst 0, 1) := by decide +kernel
theorem dX3_joined_76 : decode cX3_joined 76 = .ok (.ireturn, 1) := by decide +kernel
theorem dX3_joined_77 : decode cX3_joined 77 = .ok (.lload_n 1, 1) := by decide +kernel
theorem dX3_joined_78 : decode cX3_joined 78 = .ok (.lload_n 3, 1) := by decide +kernel
theorem dX3_joined_79 : decode cX3_joined 79 = .ok (.lcmp, 1) := by decide +kernel
theorem dX3_joined_80 : decode cX3_joined 80 = .ok (.ifCond .ne 7, 3) := by decide +kernel
theorem dX3_joined_83 : decode cX3_joined 83 = .ok (.iconst 1, 1) := by decide +kernel
theorem dX3_joined_84 : decode cX3_joined 84 = .ok (.goto 4, 3) := by decide +kernel
theorem dX3_joined_87 : decode cX3_joined 87 = .ok (.iconst 0, 1) := by decide +kernel
theorem dX3_joined_88 : decode cX3_joined 88 = .ok (.ireturn, 1) := by decide +kernel
theorem dX3_bounded_0 : decode cX3_bounded 0 = .ok (.lload_n 0, 1) := by decide +kernel
theorem dX3_bounded_1 : decode cX3_bounded 1 = .ok (.ldc2_w 174, 3) := by decide +kernel
theorem dX3_bounded_4 : decode cX3_bounded 4 = .ok (.lcmp, 1) := by decide +kernel
theorem dX3_bounded_5 : decode cX3_bounded 5 = .ok (.ifCond .ge 6, 3) := by decide +kernel
theorem dX3_bounded_8 : decode cX3_bounded 8 = .ok (.ldc 176, 2) := by decide +kernel
theorem dX3_bounded_10 : decode cX3_bounded 10 = .ok (.ireturn, 1) := by decide +kernel
theorem dX3_bounded_11 : decode cX3_bounded 11 = .ok (.lload_n 0, 1) := by decide +kernel
theorem dX3_bounded_12 : decode cX3_bounded 12 = .ok (.ldc2_w 177, 3) := by decide +kernel
theorem dX3_bounded_15 : decode cX3_bounded 15 = .ok (.lcmp, 1) := by decide +kernel
theorem dX3_bounded_16 : decode cX3_bounded 16 = .ok (.ifCond .le 8, 3) := by decide +kernel
theorem dX3_bounded_19 : decode cX3_bounded 19 = .ok (.ldc 179, 2) := by decide +kernel
theorem dX3_bounded_21 : decode cX3_bounded 21 = .ok (.goto 5, 3) := by decide +kernel
theorem dX3_bounded_24 : decode cX3_bounded 24 = .ok (.lload_n 0, 1) := by decide +kernel
theorem dX3_bounded_25 : decode cX3_bounded 25 = .ok (.l2i, 1) := by decide +kernel
theorem dX3_bounded_26 : decode cX3_bounded 26 = .ok (.ireturn, 1) := by decide +kernel
theorem dX3_push_0 : decode cX3_push 0 = .ok (.aload_n 0, 1) := by decide +kernel
theorem dX3_push_1 : decode cX3_push 1 = .ok (.getfield 141, 3) := by decide +kernel
theorem dX3_push_4 : decode cX3_push 4 = .ok (.ifCond .lt 32, 3) := by decide +kernel
theorem dX3_push_7 : decode cX3_push 7 = .ok (.aload_n 0, 1) := by decide +kernel
theorem dX3_push_8 : decode cX3_push 8 = .ok (.getfield 141, 3) := by decide +kernel
theorem dX3_push_11 : decode cX3_push 11 = .ok (.bipush 40, 2) := by decide +kernel
theorem dX3_push_13 : decode cX3_push 13 = .ok (.if_icmp .ge 23, 3) := by decide +kernel
theorem dX3_push_16 : decode cX3_push 16 = .ok (.aload_n 0, 1) := by decide +kernel
theorem dX3_push_17 : decode cX3_push 17 = .ok (.getfield 22, 3) := by decide +kernel
theorem dX3_push_20 : decode cX3_push 20 = .ok (.aload_n 0, 1) := by decide +kernel
theorem dX3_push_21 : decode cX3_push 21 = .ok (.getfield 141, 3) := by decide +kernel
theorem dX3_push_24 : decode cX3_push 24 = .ok (.iload_n 1, 1) := by decide +kernel
theorem dX3_push_25 : decode cX3_push 25 = .ok (.iastore, 1) := by decide +kernel
theorem dX3_push_26 : decode cX3_push 26 = .ok (.aload_n 0, 1) := by decide +kernel
theorem dX3_push_27 : decode cX3_push 27 = .ok (.dup, 1) := by decide +kernel
theorem dX3_push_28 : decode cX3_push 28 = .ok (.getfield 141, 3) := by decide +kernel
theorem dX3_push_31 : decode cX3_push 31 = .ok (.iconst 1, 1) := by decide +kernel
theorem dX3_push_32 : decode cX3_push 32 = .ok (.iadd, 1) := by decide +kernel
theorem dX3_push_33 : decode cX3_push 33 = .ok (.putfield 141, 3) := by decide +kernel
theorem dX3_push_36 : decode cX3_push 36 = .ok (.return_, 1) := by decide +kernel
theorem dX3_pop_0 : decode cX3_pop 0 = .ok (.aload_n 0, 1) := by decide +kernel
theorem dX3_pop_1 : decode cX3_pop 1 = .ok (.getfield 141, 3) := by decide +kernel
theorem dX3_pop_4 : decode cX3_pop 4 = .ok (.ifCond .le 12, 3) := by decide +kernel
theorem dX3_pop_7 : decode cX3_pop 7 = .ok (.aload_n 0, 1) := by decide +kernel
theorem dX3_pop_8 : decode cX3_pop 8 = .ok (.getfield 141, 3) := by decide +kernel
theorem dX3_pop_11 : decode cX3_pop 11 = .ok (.bipush 40, 2) := by decide +kernel
theorem dX3_pop_13 : decode cX3_pop 13 = .ok (.if_icmp .le 5, 3) := by decide +kernel
theorem dX3_pop_16 : decode cX3_pop 16 = .ok (.iconst 0, 1) := by decide +kernel
theorem dX3_pop_17 : decode cX3_pop 17 = .ok (.ireturn, 1) := by decide +kernel
theorem dX3_pop_18 : decode cX3_pop 18 = .ok (.aload_n 0, 1) := by decide +kernel
theorem dX3_pop_19 : decode cX3_pop 19 = .ok (.dup, 1) := by decide +kernel
theorem dX3_pop_20 : decode cX3_pop 20 = .ok (.getfield 141, 3) := by decide +kernel
theorem dX3_pop_23 : decode cX3_pop 23 = .ok (.iconst 1, 1) := by decide +kernel
theorem dX3_pop_24 : decode cX3_pop 24 = .ok (.isub, 1) := by decide +kernel
theorem dX3_pop_25 : decode cX3_pop 25 = .ok (.putfield 141, 3) := by decide +kernel
theorem dX3_pop_28 : decode cX3_pop 28 = .ok (.aload_n 0, 1) := by decide +kernel
theorem dX3_pop_29 : decode cX3_pop 29 = .ok (.getfield 22, 3) := by decide +kernel
theorem dX3_pop_32 : decode cX3_pop 32 = .ok (.aload_n 0, 1) := by decide +kernel
theorem dX3_pop_33 : decode cX3_pop 33 = .ok (.getfield 141, 3) := by decide +kernel
theorem dX3_pop_36 : decode cX3_pop 36 = .ok (.iaload, 1) := by decide +kernel
theorem dX3_pop_37 : decode cX3_pop 37 = .ok (.ireturn, 1) := by decide +kernel
theorem dX4_init_0 : decode cX4_init 0 = .ok (.aload_n 0, 1) := by decide +kernel
theorem dX4_init_1 : decode cX4_init 1 = .ok (.invokespecial 3, 3) := by decide +kernel
theorem dX4_init_4 : decode cX4_init 4 = .ok (.aload_n 0, 1) := by decide +kernel
theorem dX4_init_5 : decode cX4_init 5 = .ok (.sipush 169, 3) := by decide +kernel
theorem dX4_init_8 : decode cX4_init 8 = .ok (.newarray .int, 2) := by decide +kernel
theorem dX4_init_10 : decode cX4_init 10 = .ok (.putfield 11, 3) := by decide +kernel
theorem dX4_init_13 : decode cX4_init 13 = .ok (.aload_n 0, 1) := by decide +kernel
theorem dX4_init_14 : decode cX4_init 14 = .ok (.sipush 169, 3) := by decide +kernel
theorem dX4_init_17 : decode cX4_init 17 = .ok (.newarray .int, 2) := by decide +kernel
theorem dX4_init_19 : decode cX4_init 19 = .ok (.putfield 15, 3) := by decide +kernel
theorem dX4_init_22 : decode cX4_init 22 = .ok (.aload_n 0, 1) := by decide +kernel
theorem dX4_init_23 : decode cX4_init 23 = .ok (.sipush 169, 3) := by decide +kernel
theorem dX4_init_26 : decode cX4_init 26 = .ok (.newarray .int, 2) := by decide +kernel
theorem dX4_init_28 : decode cX4_init 28 = .ok (.putfield 18, 3) := by decide +kernel
theorem dX4_init_31 : decode cX4_init 31 = .ok (.aload_n 0, 1) := by decide +kernel
theorem dX4_init_32 : decode cX4_init 32 = .ok (.bipush 6, 2) := by decide +kernel
theorem dX4_init_34 : decode cX4_init 34 = .ok (.newarray .int, 2) := by decide +kernel
theorem dX4_init_36 : decode cX4_init 36 = .ok (.putfield 21, 3) := by decide +kernel
theorem dX4_init_39 : decode cX4_init 39 = .ok (.return_, 1) := by decide +kernel
theorem dX4_begin_0 : decode cX4_begin 0 = .ok (.aload_n 1, 1) := by decide +kernel
theorem dX4_begin_1 : decode cX4_begin 1 = .ok (.iload_n 2, 1) := by decide +kernel
theorem dX4_begin_2 : decode cX4_begin 2 = .ok (.invokevirtual 24, 3) := by decide +kernel
theorem dX4_begin_5 : decode cX4_begin 5 = .ok (.ifCond .eq 23, 3) := by decide +kernel
theorem dX4_begin_8 : decode cX4_begin 8 = .ok (.aload_n 1, 1) := by decide +kernel
theorem dX4_begin_9 : decode cX4_begin 9 = .ok (.iload_n 3, 1) := by decide +kernel
theorem dX4_begin_10 : decode cX4_begin 10 = .ok (.invokevirtual 30, 3) := by decide +kernel
theorem dX4_begin_13 : decode cX4_begin 13 = .ok (.ifCond .eq 15, 3) := by decide +kernel
theorem dX4_begin_16 : decode cX4_begin 16 = .ok (.iload 4, 2) := by decide +kernel
theorem dX4_begin_18 : decode cX4_begin 18 = .ok (.ifCond .lt 10, 3) := by decide +kernel
theorem dX4_begin_21 : decode cX4_begin 21 = .ok (.iload 4, 2) := by decide +kernel
theorem dX4_begin_23 : decode cX4_begin 23 = .ok (.bipush 16, 2) := by decide +kernel
theorem dX4_begin_25 : decode cX4_begin 25 = .ok (.if_icmp .le 5, 3) := by decide +kernel
theorem dX4_begin_28 : decode cX4_begin 28 = .ok (.iconst 0, 1) := by decide +kernel
theorem dX4_begin_29 : decode cX4_begin 29 = .ok (.ireturn, 1) := by decide +kernel
theorem dX4_begin_30 : decode cX4_begin 30 = .ok (.aload_n 0, 1) := by decide +kernel
theorem dX4_begin_31 : decode cX4_begin 31 = .ok (.aload_n 1, 1) := by decide +kernel
theorem dX4_begin_32 : decode cX4_begin 32 = .ok (.iload_n 3, 1) := by decide +kernel
theorem dX4_begin_33 : decode cX4_begin 33 = .ok (.iconst 0, 1) := by decide +kernel
theorem dX4_begin_34 : decode cX4_begin 34 = .ok (.invokevirtual 33, 3) := by decide +kernel
theorem dX4_begin_37 : decode cX4_begin 37 = .ok (.putfield 37, 3) := by decide +kernel
theorem dX4_begin_40 : decode cX4_begin 40 = .ok (.aload_n 0, 1) := by decide +kernel
theorem dX4_begin_41 : decode cX4_begin 41 = .ok (.getfield 37, 3) := by decide +kernel
theorem dX4_begin_44 : decode cX4_begin 44 = .ok (.iconst 4, 1) := by decide +kernel
theorem dX4_begin_45 : decode cX4_begin 45 = .ok (.if_icmp .lt 5, 3) := by decide +kernel
theorem dX4_begin_48 : decode cX4_begin 48 = .ok (.iconst 0, 1) := by decide +kernel
theorem dX4_begin_49 : decode cX4_begin 49 = .ok (.ireturn, 1) := by decide +kernel
theorem dX4_begin_50 : decode cX4_begin 50 = .ok (.aload_n 0, 1) := by decide +kernel
theorem dX4_begin_51 : decode cX4_begin 51 = .ok (.aload_n 1, 1) := by decide +kernel
theorem dX4_begin_52 : decode cX4_begin 52 = .ok (.iload_n 3, 1) := by decide +kernel
theorem dX4_begin_53 : decode cX4_begin 53 = .ok (.iconst 1, 1) := by decide +kernel
theorem dX4_begin_54 : decode cX4_begin 54 = .ok (.invokevirtual 33, 3) := by decide +kernel
theorem dX4_begin_57 : decode cX4_begin 57 = .ok (.putfield 41, 3) := by decide +kernel
theorem dX4_begin_60 : decode cX4_begin 60 = .ok (.aload_n 0, 1) := by decide +kernel
theorem dX4_begin_61 : decode cX4_begin 61 = .ok (.sipush 1000, 3) := by decide +kernel
theorem dX4_begin_64 : decode cX4_begin 64 = .ok (.aload_n 1, 1) := by decide +kernel
theorem dX4_begin_65 : decode cX4_begin 65 = .ok (.iload_n 2, 1) := by decide +kernel
theorem dX4_begin_66 : decode cX4_begin 66 = .ok (.iconst 1, 1) := by decide +kernel
theorem dX4_begin_67 : decode cX4_begin 67 = .ok (.invokevirtual 44, 3) := by decide +kernel
theorem dX4_begin_70 : decode cX4_begin 70 = .ok (.imul, 1) := by decide +kernel
theorem dX4_begin_71 : decode cX4_begin 71 = .ok (.putfield 47, 3) := by decide +kernel
theorem dX4_begin_74 : decode cX4_begin 74 = .ok (.aload_n 0, 1) := by decide +kernel
theorem dX4_begin_75 : decode cX4_begin 75 = .ok (.sipush 1000, 3) := by decide +kernel
theorem dX4_begin_78 : decode cX4_begin 78 = .ok (.aload_n 1, 1) := by decide +kernel
theorem dX4_begin_79 : decode cX4_begin 79 = .ok (.iload_n 2, 1) := by decide +kernel
theorem dX4_begin_80 : decode cX4_begin 80 = .ok (.iconst 3, 1) := by decide +kernel
theorem dX4_begin_81 : decode cX4_begin 81 = .ok (.invokevirtual 44, 3) := by decide +kernel
theorem dX4_begin_84 : decode cX4_begin 84 = .ok (.imul, 1) := by decide +kernel
theorem dX4_begin_85 : decode cX4_begin 85 = .ok (.putfield 50, 3) := by decide +kernel
theorem dX4_begin_88 : decode cX4_begin 88 = .ok (.aload_n 0, 1) := by decide +kernel
theorem dX4_begin_89 : decode cX4_begin 89 = .ok (.sipush 1000, 3) := by decide +kernel
theorem dX4_begin_92 : decode cX4_begin 92 = .ok (.aload_n 1, 1) := by decide +kernel
theorem dX4_begin_93 : decode cX4_begin 93 = .ok (.invokevirtual 53, 3) := by decide +kernel
theorem dX4_begin_96 : decode cX4_begin 96 = .ok (.imul, 1) := by decide +kernel
theorem dX4_begin_97 : decode cX4_begin 97 = .ok (.aload_n 1, 1) := by decide +kernel
theorem dX4_begin_98 : decode cX4_begin 98 = .ok (.iload_n 2, 1) := by decide +kernel
theorem dX4_begin_99 : decode cX4_begin 99 = .ok (.iconst 4, 1) := by decide +kernel
theorem dX4_begin_100 : decode cX4_begin 100 = .ok (.invokevirtual 44, 3) := by decide +kernel
theorem dX4_begin_103 : decode cX4_begin 103 = .ok (.imul, 1) := by decide +kernel
theorem dX4_begin_104 : decode cX4_begin 104 = .ok (.putfield 57, 3) := by decide +kernel
theorem dX4_begin_107 : decode cX4_begin 107 = .ok (.aload_n 0, 1) := by decide +kernel
theorem dX4_begin_108 : decode cX4_begin 108 = .ok (.sipush 1000, 3) := by decide +kernel
theorem dX4_begin_111 : decode cX4_begin 111 = .ok (.aload_n 1, 1) := by decide +kernel
theorem dX4_begin_112 : decode cX4_begin 112 = .ok (.invokevirtual 60, 3) := by decide +kernel
theorem dX4_begin_115 : decode cX4_begin 115 = .ok (.imul, 1) := by decide +kernel
theorem dX4_begin_116 : decode cX4_begin 116 = .ok (.aload_n 0, 1) := by decide +kernel
theorem dX4_begin_117 : decode cX4_begin 117 = .ok (.getfield 57, 3) := by decide +kernel
theorem dX4_begin_120 : decode cX4_begin 120 = .ok (.iadd, 1) := by decide +kernel
theorem dX4_begin_121 : decode cX4_begin 121 = .ok (.putfield 63, 3) := by decide +kernel
theorem dX4_begin_124 : decode cX4_begin 124 = .ok (.aload_n 0, 1) := by decide +kernel
theorem dX4_begin_125 : decode cX4_begin 125 = .ok (.iload 4, 2) := by decide +kernel
theorem dX4_begin_127 : decode cX4_begin 127 = .ok (.putfield 66, 3) := by decide +kernel
theorem dX4_begin_130 : decode cX4_begin 130 = .ok (.aload_n 0, 1) := by decide +kernel
theorem dX4_begin_131 : decode cX4_begin 131 = .ok (.iconst 0, 1) := by decide +kernel
theorem dX4_begin_132 : decode cX4_begin 132 = .ok (.putfield 69, 3) := by decide +kernel
theorem dX4_begin_135 : decode cX4_begin 135 = .ok (.aload_n 0, 1) := by decide +kernel
theorem dX4_begin_136 : decode cX4_begin 136 = .ok (.getfield 15, 3) := by decide +kernel
theorem dX4_begin_139 : decode cX4_begin 139 = .ok (.iconst 0, 1) := by decide +kernel
theorem dX4_begin_140 : decode cX4_begin 140 = .ok (.invokestatic 72, 3) := by decide +kernel
theorem dX4_begin_143 : decode cX4_begin 143 = .ok (.aload_n 0, 1) := by decide +kernel
theorem dX4_begin_144 : decode cX4_begin 144 = .ok (.getfield 18, 3) := by decide +kernel
theorem dX4_begin_147 : decode cX4_begin 147 = .ok (.iconst 0, 1) := by decide +kernel
theorem dX4_begin_148 : decode cX4_begin 148 = .ok (.invokestatic 72, 3) := by decide +kernel
theorem dX4_begin_151 : decode cX4_begin 151 = .ok (.iconst 1, 1) := by decide +kernel
theorem dX4_begin_152 : decode cX4_begin 152 = .ok (.ireturn, 1) := by decide +kernel
theorem dX4_reach_0 : decode cX4_reach 0 = .ok (.aload_n 0, 1) := by decide +kernel
theorem dX4_reach_1 : decode cX4_reach 1 = .ok (.getfield 69, 3) := by decide +kernel
theorem dX4_reach_4 : decode cX4_reach 4 = .ok (.istore_n 2, 1) := by decide +kernel
theorem dX4_reach_5 : decode cX4_reach 5 = .ok (.iload_n 2, 1) := by decide +kernel
theorem dX4_reach_6 : decode cX4_reach 6 = .ok (.iload_n 1, 1) := by decide +kernel
theorem dX4_reach_7 : decode cX4_reach 7 = .ok (.if_icmp .ge 23, 3) := by decide +kernel
theorem dX4_reach_10 : decode cX4_reach 10 = .ok (.iload_n 2, 1) := by decide +kernel
theorem dX4_reach_11 : decode cX4_reach 11 = .ok (.bipush 120, 2) := by decide +kernel
theorem dX4_reach_13 : decode cX4_reach 13 = .ok (.if_icmp .ge 17, 3) := by decide +kernel
theorem dX4_reach_16 : decode cX4_reach 16 = .ok (.aload_n 0, 1) := by decide +kernel
theorem dX4_reach_17 : decode cX4_reach 17 = .ok (.invokevirtual 78, 3) := by decide +kernel
theorem dX4_reach_20 : decode cX4_reach 20 = .ok (.aload_n 0, 1) := by decide +kernel
theorem dX4_reach_21 : decode cX4_reach 21 = .ok (.invokevirtual 81, 3) := by decide +kernel
theorem dX4_reach_24 : decode cX4_reach 24 = .ok (.iinc 2 1, 3) := by decide +kernel
theorem dX4_reach_27 : decode cX4_reach 27 = .ok (.goto (-22), 3) := by decide +kernel
theorem dX4_reach_30 : decode cX4_reach 30 = .ok (.return_, 1) := by decide +kernel
theorem dX4_indexOf_0 : decode cX4_indexOf 0 = .ok (.iload_n 0, 1) := by decide +kernel
theorem dX4_indexOf_1 : decode cX4_indexOf 1 = .ok (.ifCond .lt 19, 3) := by decide +kernel
theorem dX4_indexOf_4 : decode cX4_indexOf 4 = .ok (.iload_n 1, 1) := by decide +kernel
theorem dX4_indexOf_5 : decode cX4_indexOf 5 = .ok (.ifCond .lt 15, 3) := by decide +kernel
theorem dX4_indexOf_8 : decode cX4_indexOf 8 = .ok (.iload_n 0, 1) := by decide +kernel
theorem dX4_indexOf_9 : decode cX4_indexOf 9 = .ok (.iload_n 1, 1) := by decide +kernel
theorem dX4_indexOf_10 : decode cX4_indexOf 10 = .ok (.iadd, 1) := by decide +kernel
theorem dX4_indexOf_11 : decode cX4_indexOf 11 = .ok (.bipush 12, 2) := by decide +kernel
theorem dX4_indexOf_13 : decode cX4_indexOf 13 = .ok (.if_icmp .gt 7, 3) := by decide +kernel
theorem dX4_indexOf_16 : decode cX4_indexOf 16 = .ok (.iconst 1, 1) := by decide +kernel
theorem dX4_indexOf_17 : decode cX4_indexOf 17 = .ok (.goto 4, 3) := by decide +kernel
theorem dX4_indexOf_20 : decode cX4_indexOf 20 = .ok (.iconst 0, 1) := by decide +kernel
theorem dX4_indexOf_21 : decode cX4_indexOf 21 = .ok (.istore_n 2, 1) := by decide +kernel
theorem dX4_indexOf_22 : decode cX4_indexOf 22 = .ok (.iload_n 2, 1) := by decide +kernel
theorem dX4_indexOf_23 : decode cX4_indexOf 23 = .ok (.ifCond .eq 12, 3) := by decide +kernel
theorem dX4_indexOf_26 : decode cX4_indexOf 26 = .ok (.iload_n 0, 1) := by decide +kernel
theorem dX4_indexOf_27 : decode cX4_indexOf 27 = .ok (.bipush 13, 2) := by decide +kernel
theorem dX4_indexOf_29 : decode cX4_indexOf 29 = .ok (.imul, 1) := by decide +kernel
theorem dX4_indexOf_30 : decode cX4_indexOf 30 = .ok (.iload_n 1, 1) := by decide +kernel
theorem dX4_indexOf_31 : decode cX4_indexOf 31 = .ok (.iadd, 1) := by decide +kernel
theorem dX4_indexOf_32 : decode cX4_indexOf 32 = .ok (.goto 4, 3) := by decide +kernel
theorem dX4_indexOf_35 : decode cX4_indexOf 35 = .ok (.iconst 0, 1) := by decide +kernel
theorem dX4_indexOf_36 : decode cX4_indexOf 36 = .ok (.ireturn, 1) := by decide +kernel
theorem dX4_valueOf_0 : decode cX4_valueOf 0 = .ok (.aload_n 0, 1) := by decide +kernel
theorem dX4_valueOf_1 : decode cX4_valueOf 1 = .ok (.getfield 15, 3) := by decide +kernel
theorem dX4_valueOf_4 : decode cX4_valueOf 4 = .ok (.iload_n 1, 1) := by decide +kernel
theorem dX4_valueOf_5 : decode cX4_valueOf 5 = .ok (.iload_n 2, 1) := by decide +kernel
theorem dX4_valueOf_6 : decode cX4_valueOf 6 = .ok (.invokestatic 84, 3) := by decide +kernel
theorem dX4_valueOf_9 : decode cX4_valueOf 9 = .ok (.iaload, 1) := by decide +kernel
theorem dX4_valueOf_10 : decode cX4_valueOf 10 = .ok (.ireturn, 1) := by decide +kernel
theorem dX4_actOf_0 : decode cX4_actOf 0 = .ok (.aload_n 0, 1) := by decide +kernel
theorem dX4_actOf_1 : decode cX4_actOf 1 = .ok (.getfield 69, 3) := by decide +kernel
theorem dX4_actOf_4 : decode cX4_actOf 4 = .ok (.ifCond .ne 5, 3) := by decide +kernel
theorem dX4_actOf_7 : decode cX4_actOf 7 = .ok (.iconst 2, 1) := by decide +kernel
theorem dX4_actOf_8 : decode cX4_actOf 8 = .ok (.ireturn, 1) := by decide +kernel
theorem dX4_actOf_9 : decode cX4_actOf 9 = .ok (.aload_n 0, 1) := by decide +kernel
theorem dX4_actOf_10 : decode cX4_actOf 10 = .ok (.getfield 18, 3) := by decide +kernel
theorem dX4_actOf_13 : decode cX4_actOf 13 = .ok (.iload_n 1, 1) := by decide +kernel
theorem dX4_actOf_14 : decode cX4_actOf 14 = .ok (.iload_n 2, 1) := by decide +kernel
theorem dX4_actOf_15 : decode cX4_actOf 15 = .ok (.invokestatic 84, 3) := by decide +kernel
theorem dX4_actOf_18 : decode cX4_actOf 18 = .ok (.iaload, 1) := by decide +kernel
theorem dX4_actOf_19 : decode cX4_actOf 19 = .ok (.istore_n 3, 1) := by decide +kernel
theorem dX4_actOf_20 : decode cX4_actOf 20 = .ok (.aload_n 0, 1) := by decide +kernel
theorem dX4_actOf_21 : decode cX4_actOf 21 = .ok (.iload_n 1, 1) := by decide +kernel
theorem dX4_actOf_22 : decode cX4_actOf 22 = .ok (.iload_n 2, 1) := by decide +kernel
theorem dX4_actOf_23 : decode cX4_actOf 23 = .ok (.invokevirtual 87, 3) := by decide +kernel
theorem dX4_actOf_26 : decode cX4_actOf 26 = .ok (.istore 4, 2) := by decide +kernel
theorem dX4_actOf_28 : decode cX4_actOf 28 = .ok (.iload_n 3, 1) := by decide +kernel
theorem dX4_actOf_29 : decode cX4_actOf 29 = .ok (.ifCond .lt 11, 3) := by decide +kernel
theorem dX4_actOf_32 : decode cX4_actOf 32 = .ok (.iload_n 3, 1) := by decide +kernel
theorem dX4_actOf_33 : decode cX4_actOf 33 = .ok (.iload 4, 2) := by decide +kernel
theorem dX4_actOf_35 : decode cX4_actOf 35 = .ok (.if_icmp .lt 5, 3) := by decide +kernel
theorem dX4_actOf_38 : decode cX4_actOf 38 = .ok (.iconst 0, 1) := by decide +kernel
theorem dX4_actOf_39 : decode cX4_actOf 39 = .ok (.ireturn, 1) := by decide +kernel
theorem dX4_actOf_40 : decode cX4_actOf 40 = .ok (.iload 4, 2) := by decide +kernel
theorem dX4_actOf_42 : decode cX4_actOf 42 = .ok (.ifCond .lt 7, 3) := by decide +kernel
theorem dX4_actOf_45 : decode cX4_actOf 45 = .ok (.iconst 1, 1) := by decide +kernel
theorem dX4_actOf_46 : decode cX4_actOf 46 = .ok (.goto 4, 3) := by decide +kernel
theorem dX4_actOf_49 : decode cX4_actOf 49 = .ok (.iconst 2, 1) := by decide +kernel
theorem dX4_actOf_50 : decode cX4_actOf 50 = .ok (.ireturn, 1) := by decide +kernel
theorem dX4_worthOfEntering_0 : decode cX4_worthOfEntering 0 = .ok (.aload_n 0, 1) := by decide +kernel
theorem dX4_worthOfEntering_1 : decode cX4_worthOfEntering 1 = .ok (.iload_n 1, 1) := by decide +kernel
theorem dX4_worthOfEntering_2 : decode cX4_worthOfEntering 2 = .ok (.iconst 0, 1) := by decide +kernel
theorem dX4_worthOfEntering_3 : decode cX4_worthOfEntering 3 = .ok (.invokevirtual 90, 3) := by decide +kernel
theorem dX4_worthOfEntering_6 : decode cX4_worthOfEntering 6 = .ok (.sipush 1000, 3) := by decide +kernel
theorem dX4_worthOfEntering_9 : decode cX4_worthOfEntering 9 = .ok (.iload_n 2, 1) := by decide +kernel
theorem dX4_worthOfEntering_10 : decode cX4_worthOfEntering 10 = .ok (.imul, 1) := by decide +kernel
theorem dX4_worthOfEntering_11 : decode cX4_worthOfEntering 11 = .ok (.isub, 1) := by decide +kernel
theorem dX4_worthOfEntering_12 : decode cX4_worthOfEntering 12 = .ok (.ireturn, 1) := by decide +kernel
theorem dX4_turned_0 : decode cX4_turned 0 = .ok (.aload_n 0, 1) := by decide +kernel
theorem dX4_turned_1 : decode cX4_turned 1 = .ok (.getfield 18, 3) := by decide +kernel
theorem dX4_turned_4 : decode cX4_turned 4 = .ok (.iload_n 1, 1) := by decide +kernel
theorem dX4_turned_5 : decode cX4_turned 5 = .ok (.iload_n 2, 1) := by decide +kernel
theorem dX4_turned_6 : decode cX4_turned 6 = .ok (.iadd, 1) := by decide +kernel
theorem dX4_turned_7 : decode cX4_turned 7 = .ok (.iconst 0, 1) := by decide +kernel
theorem dX4_turned_8 : decode cX4_turned 8 = .ok (.invokestatic 84, 3) := by decide +kernel
theorem dX4_turned_11 : decode cX4_turned 11 = .ok (.iaload, 1) := by decide +kernel
theorem dX4_turned_12 : decode cX4_turned 12 = .ok (.aload_n 0, 1) := by decide +kernel
theorem dX4_turned_13 : decode cX4_turned 13 = .ok (.getfield 63, 3) := by decide +kernel
theorem dX4_turned_16 : decode cX4_turned 16 = .ok (.isub, 1) := by decide +kernel
theorem dX4_turned_17 : decode cX4_turned 17 = .ok (.ireturn, 1) := by decide +kernel
theorem dX4_weighStaying_0 : decode cX4_weighStaying 0 = .ok (.aload_n 0, 1) := by decide +kernel
theorem dX4_weighStaying_1 : decode cX4_weighStaying 1 = .ok (.dup, 1) := by decide +kernel
theorem dX4_weighStaying_2 : decode cX4_weighStaying 2 = .ok (.getfield 69, 3) := by decide +kernel
theorem dX4_weighStaying_5 : decode cX4_weighStaying 5 = .ok (.iconst 1, 1) := by decide +kernel
theorem dX4_weighStaying_6 : decode cX4_weighStaying 6 = .ok (.iadd, 1) := by decide +kernel
theorem dX4_weighStaying_7 : decode cX4_weighStaying 7 = .ok (.putfield 69, 3) := by decide +kernel
theorem dX4_weighStaying_10 : decode cX4_weighStaying 10 = .ok (.aload_n 0, 1) := by decide +kernel
theorem dX4_weighStaying_11 : decode cX4_weighStaying 11 = .ok (.getfield 15, 3) := by decide +kernel
theorem dX4_weighStaying_14 : decode cX4_weighStaying 14 = .ok (.iconst 0, 1) := by decide +kernel
theorem dX4_weighStaying_15 : decode cX4_weighStaying 15 = .ok (.aload_n 0, 1) := by decide +kernel
theorem dX4_weighStaying_16 : decode cX4_weighStaying 16 = .ok (.getfield 11, 3) := by decide +kernel
theorem dX4_weighStaying_19 : decode cX4_weighStaying 19 = .ok (.iconst 0, 1) := by decide +kernel
theorem dX4_weighStaying_20 : decode cX4_weighStaying 20 = .ok (.sipush 169, 3) := by decide +kernel
theorem dX4_weighStaying_23 : decode cX4_weighStaying 23 = .ok (.invokestatic 93, 3) := by decide +kernel
theorem dX4_weighStaying_26 : decode cX4_weighStaying 26 = .ok (.aload_n 0, 1) := by decide +kernel
theorem dX4_weighStaying_27 : decode cX4_weighStaying 27 = .ok (.getfield 41, 3) := by decide +kernel
theorem dX4_weighStaying_30 : decode cX4_weighStaying 30 = .ok (.ifCond .le 19, 3) := by decide +kernel
theorem dX4_weighStaying_33 : decode cX4_weighStaying 33 = .ok (.aload_n 0, 1) := by decide +kernel
theorem dX4_weighStaying_34 : decode cX4_weighStaying 34 = .ok (.getfield 69, 3) := by decide +kernel
theorem dX4_weighStaying_37 : decode cX4_weighStaying 37 = .ok (.aload_n 0, 1) := by decide +kernel
theorem dX4_weighStaying_38 : decode cX4_weighStaying 38 = .ok (.getfield 41, 3) := by decide +kernel
theorem dX4_weighStaying_41 : decode cX4_weighStaying 41 = .ok (.irem, 1) := by decide +kernel
theorem dX4_weighStaying_42 : decode cX4_weighStaying 42 = .ok (.ifCond .ne 7, 3) := by decide +kernel
theorem dX4_weighStaying_45 : decode cX4_weighStaying 45 = .ok (.iconst 1, 1) := by decide +kernel
theorem dX4_weighStaying_46 : decode cX4_weighStaying 46 = .ok (.goto 4, 3) := by decide +kernel
theorem dX4_weighStaying_49 : decode cX4_weighStaying 49 = .ok (.iconst 0, 1) := by decide +kernel
theorem dX4_weighStaying_50 : decode cX4_weighStaying 50 = .ok (.istore_n 1, 1) := by decide +kernel
theorem dX4_weighStaying_51 : decode cX4_weighStaying 51 = .ok (.iconst 0, 1) := by decide +kernel
theorem dX4_weighStaying_52 : decode cX4_weighStaying 52 = .ok (.istore_n 2, 1) := by decide +kernel
theorem dX4_weighStaying_53 : decode cX4_weighStaying 53 = .ok (.iload_n 2, 1) := by decide +kernel
theorem dX4_weighStaying_54 : decode cX4_weighStaying 54 = .ok (.bipush 12, 2) := by decide +kernel
theorem dX4_weighStaying_56 : decode cX4_weighStaying 56 = .ok (.if_icmp .gt 63, 3) := by decide +kernel
theorem dX4_weighStaying_59 : decode cX4_weighStaying 59 = .ok (.iconst 0, 1) := by decide +kernel
theorem dX4_weighStaying_60 : decode cX4_weighStaying 60 = .ok (.istore_n 3, 1) := by decide +kernel
theorem dX4_weighStaying_61 : decode cX4_weighStaying 61 = .ok (.iload_n 2, 1) := by decide +kernel
theorem dX4_weighStaying_62 : decode cX4_weighStaying 62 = .ok (.iload_n 3, 1) := by decide +kernel
theorem dX4_weighStaying_63 : decode cX4_weighStaying 63 = .ok (.iadd, 1) := by decide +kernel
theorem dX4_weighStaying_64 : decode cX4_weighStaying 64 = .ok (.bipush 12, 2) := by decide +kernel
theorem dX4_weighStaying_66 : decode cX4_weighStaying 66 = .ok (.if_icmp .gt 47, 3) := by decide +kernel
theorem dX4_weighStaying_69 : decode cX4_weighStaying 69 = .ok (.iload_n 1, 1) := by decide +kernel
theorem dX4_weighStaying_70 : decode cX4_weighStaying 70 = .ok (.ifCond .eq 12, 3) := by decide +kernel
theorem dX4_weighStaying_73 : decode cX4_weighStaying 73 = .ok (.aload_n 0, 1) := by decide +kernel
theorem dX4_weighStaying_74 : decode cX4_weighStaying 74 = .ok (.iload_n 2, 1) := by decide +kernel
theorem dX4_weighStaying_75 : decode cX4_weighStaying 75 = .ok (.iload_n 3, 1) := by decide +kernel
theorem dX4_weighStaying_76 : decode cX4_weighStaying 76 = .ok (.invokevirtual 99, 3) := by decide +kernel
theorem dX4_weighStaying_79 : decode cX4_weighStaying 79 = .ok (.goto 9, 3) := by decide +kernel
theorem dX4_weighStaying_82 : decode cX4_weighStaying 82 = .ok (.aload_n 0, 1) := by decide +kernel
theorem dX4_weighStaying_83 : decode cX4_weighStaying 83 = .ok (.iload_n 2, 1) := by decide +kernel
theorem dX4_weighStaying_84 : decode cX4_weighStaying 84 = .ok (.iload_n 3, 1) := by decide +kernel
theorem dX4_weighStaying_85 : decode cX4_weighStaying 85 = .ok (.invokevirtual 102, 3) := by decide +kernel
theorem dX4_weighStaying_88 : decode cX4_weighStaying 88 = .ok (.istore 4, 2) := by decide +kernel
theorem dX4_weighStaying_90 : decode cX4_weighStaying 90 = .ok (.aload_n 0, 1) := by decide +kernel
theorem dX4_weighStaying_91 : decode cX4_weighStaying 91 = .ok (.getfield 18, 3) := by decide +kernel
theorem dX4_weighStaying_94 : decode cX4_weighStaying 94 = .ok (.iload_n 2, 1) := by decide +kernel
theorem dX4_weighStaying_95 : decode cX4_weighStaying 95 = .ok (.iload_n 3, 1) := by decide +kernel
theorem dX4_weighStaying_96 : decode cX4_weighStaying 96 = .ok (.invokestatic 84, 3) := by decide +kernel
theorem dX4_weighStaying_99 : decode cX4_weighStaying 99 = .ok (.iload 4, 2) := by decide +kernel
theorem dX4_weighStaying_101 : decode cX4_weighStaying 101 = .ok (.aload_n 0, 1) := by decide +kernel
theorem dX4_weighStaying_102 : decode cX4_weighStaying 102 = .ok (.getfield 50, 3) := by decide +kernel
theorem dX4_weighStaying_105 : decode cX4_weighStaying 105 = .ok (.isub, 1) := by decide +kernel
theorem dX4_weighStaying_106 : decode cX4_weighStaying 106 = .ok (.iastore, 1) := by decide +kernel
theorem dX4_weighStaying_107 : decode cX4_weighStaying 107 = .ok (.iinc 3 1, 3) := by decide +kernel
theorem dX4_weighStaying_110 : decode cX4_weighStaying 110 = .ok (.goto (-49), 3) := by decide +kernel
theorem dX4_weighStaying_113 : decode cX4_weighStaying 113 = .ok (.iinc 2 1, 3) := by decide +kernel
theorem dX4_weighStaying_116 : decode cX4_weighStaying 116 = .ok (.goto (-63), 3) := by decide +kernel
theorem dX4_weighStaying_119 : decode cX4_weighStaying 119 = .ok (.return_, 1) := by decide +kernel
theorem dX4_settle_0 : decode cX4_settle 0 = .ok (.iconst 0, 1) := by decide +kernel
theorem dX4_settle_1 : decode cX4_settle 1 = .ok (.istore_n 1, 1) := by decide +kernel
theorem dX4_settle_2 : decode cX4_settle 2 = .ok (.iload_n 1, 1) := by decide +kernel
theorem dX4_settle_3 : decode cX4_settle 3 = .ok (.bipush 12, 2) := by decide +kernel
theorem dX4_settle_5 : decode cX4_settle 5 = .ok (.if_icmp .gt 56, 3) := by decide +kernel
theorem dX4_settle_8 : decode cX4_settle 8 = .ok (.iconst 0, 1) := by decide +kernel
theorem dX4_settle_9 : decode cX4_settle 9 = .ok (.istore_n 2, 1) := by decide +kernel
theorem dX4_settle_10 : decode cX4_settle 10 = .ok (.iload_n 1, 1) := by decide +kernel
theorem dX4_settle_11 : decode cX4_settle 11 = .ok (.iload_n 2, 1) := by decide +kernel
theorem dX4_settle_12 : decode cX4_settle 12 = .ok (.iadd, 1) := by decide +kernel
theorem dX4_settle_13 : decode cX4_settle 13 = .ok (.bipush 12, 2) := by decide +kernel
theorem dX4_settle_15 : decode cX4_settle 15 = .ok (.if_icmp .gt 40, 3) := by decide +kernel
theorem dX4_settle_18 : decode cX4_settle 18 = .ok (.iload_n 1, 1) := by decide +kernel
theorem dX4_settle_19 : decode cX4_settle 19 = .ok (.iload_n 2, 1) := by decide +kernel
theorem dX4_settle_20 : decode cX4_settle 20 = .ok (.invokestatic 84, 3) := by decide +kernel
theorem dX4_settle_23 : decode cX4_settle 23 = .ok (.istore_n 3, 1) := by decide +kernel
theorem dX4_settle_24 : decode cX4_settle 24 = .ok (.aload_n 0, 1) := by decide +kernel
theorem dX4_settle_25 : decode cX4_settle 25 = .ok (.getfield 15, 3) := by decide +kernel
theorem dX4_settle_28 : decode cX4_settle 28 = .ok (.iload_n 3, 1) := by decide +kernel
theorem dX4_settle_29 : decode cX4_settle 29 = .ok (.iconst 0, 1) := by decide +kernel
theorem dX4_settle_30 : decode cX4_settle 30 = .ok (.aload_n 0, 1) := by decide +kernel
theorem dX4_settle_31 : decode cX4_settle 31 = .ok (.getfield 18, 3) := by decide +kernel
theorem dX4_settle_34 : decode cX4_settle 34 = .ok (.iload_n 3, 1) := by decide +kernel
theorem dX4_settle_35 : decode cX4_settle 35 = .ok (.iaload, 1) := by decide +kernel
theorem dX4_settle_36 : decode cX4_settle 36 = .ok (.aload_n 0, 1) := by decide +kernel
theorem dX4_settle_37 : decode cX4_settle 37 = .ok (.iload_n 1, 1) := by decide +kernel
theorem dX4_settle_38 : decode cX4_settle 38 = .ok (.iload_n 2, 1) := by decide +kernel
theorem dX4_settle_39 : decode cX4_settle 39 = .ok (.invokevirtual 87, 3) := by decide +kernel
theorem dX4_settle_42 : decode cX4_settle 42 = .ok (.invokestatic 105, 3) := by decide +kernel
theorem dX4_settle_45 : decode cX4_settle 45 = .ok (.invokestatic 105, 3) := by decide +kernel
theorem dX4_settle_48 : decode cX4_settle 48 = .ok (.iastore, 1) := by decide +kernel
theorem dX4_settle_49 : decode cX4_settle 49 = .ok (.iinc 2 1, 3) := by decide +kernel
theorem dX4_settle_52 : decode cX4_settle 52 = .ok (.goto (-42), 3) := by decide +kernel
theorem dX4_settle_55 : decode cX4_settle 55 = .ok (.iinc 1 1, 3) := by decide +kernel
theorem dX4_settle_58 : decode cX4_settle 58 = .ok (.goto (-56), 3) := by decide +kernel
theorem dX4_settle_61 : decode cX4_settle 61 = .ok (.return_, 1) := by decide +kernel
theorem dX4_served_0 : decode cX4_served 0 = .ok (.iload_n 1, 1) := by decide +kernel
theorem dX4_served_1 : decode cX4_served 1 = .ok (.iload_n 2, 1) := by decide +kernel
theorem dX4_served_2 : decode cX4_served 2 = .ok (.iadd, 1) := by decide +kernel
theorem dX4_served_3 : decode cX4_served 3 = .ok (.iconst 1, 1) := by decide +kernel
theorem dX4_served_4 : decode cX4_served 4 = .ok (.iadd, 1) := by decide +kernel
theorem dX4_served_5 : decode cX4_served 5 = .ok (.istore_n 3, 1) := by decide +kernel
theorem dX4_served_6 : decode cX4_served 6 = .ok (.aload_n 0, 1) := by decide +kernel
theorem dX4_served_7 : decode cX4_served 7 = .ok (.getfield 37, 3) := by decide +kernel
theorem dX4_served_10 : decode cX4_served 10 = .ok (.iconst 3, 1) := by decide +kernel
theorem dX4_served_11 : decode cX4_served 11 = .ok (.if_icmp .ne 44, 3) := by decide +kernel
theorem dX4_served_14 : decode cX4_served 14 = .ok (.aload_n 0, 1) := by decide +kernel
theorem dX4_served_15 : decode cX4_served 15 = .ok (.getfield 47, 3) := by decide +kernel
theorem dX4_served_18 : decode cX4_served 18 = .ok (.iload_n 1, 1) := by decide +kernel
theorem dX4_served_19 : decode cX4_served 19 = .ok (.aload_n 0, 1) := by decide +kernel
theorem dX4_served_20 : decode cX4_served 20 = .ok (.iload_n 1, 1) := by decide +kernel
theorem dX4_served_21 : decode cX4_served 21 = .ok (.iconst 1, 1) := by decide +kernel
theorem dX4_served_22 : decode cX4_served 22 = .ok (.isub, 1) := by decide +kernel
theorem dX4_served_23 : decode cX4_served 23 = .ok (.iload_n 2, 1) := by decide +kernel
theorem dX4_served_24 : decode cX4_served 24 = .ok (.invokevirtual 102, 3) := by decide +kernel
theorem dX4_served_27 : decode cX4_served 27 = .ok (.imul, 1) := by decide +kernel
theorem dX4_served_28 : decode cX4_served 28 = .ok (.iadd, 1) := by decide +kernel
theorem dX4_served_29 : decode cX4_served 29 = .ok (.iload_n 2, 1) := by decide +kernel
theorem dX4_served_30 : decode cX4_served 30 = .ok (.aload_n 0, 1) := by decide +kernel
theorem dX4_served_31 : decode cX4_served 31 = .ok (.iload_n 1, 1) := by decide +kernel
theorem dX4_served_32 : decode cX4_served 32 = .ok (.iload_n 2, 1) := by decide +kernel
theorem dX4_served_33 : decode cX4_served 33 = .ok (.iconst 1, 1) := by decide +kernel
theorem dX4_served_34 : decode cX4_served 34 = .ok (.isub, 1) := by decide +kernel
theorem dX4_served_35 : decode cX4_served 35 = .ok (.invokevirtual 102, 3) := by decide +kernel
theorem dX4_served_38 : decode cX4_served 38 = .ok (.imul, 1) := by decide +kernel
theorem dX4_served_39 : decode cX4_served 39 = .ok (.iadd, 1) := by decide +kernel
theorem dX4_served_40 : decode cX4_served 40 = .ok (.istore 4, 2) := by decide +kernel
theorem dX4_served_42 : decode cX4_served 42 = .ok (.iload_n 3, 1) := by decide +kernel
theorem dX4_served_43 : decode cX4_served 43 = .ok (.ifCond .gt 7, 3) := by decide +kernel
theorem dX4_served_46 : decode cX4_served 46 = .ok (.iconst 0, 1) := by decide +kernel
theorem dX4_served_47 : decode cX4_served 47 = .ok (.goto 7, 3) := by decide +kernel
theorem dX4_served_50 : decode cX4_served 50 = .ok (.iload 4, 2) := by decide +kernel
theorem dX4_served_52 : decode cX4_served 52 = .ok (.iload_n 3, 1) := by decide +kernel
theorem dX4_served_53 : decode cX4_served 53 = .ok (.idiv, 1) := by decide +kernel
theorem dX4_served_54 : decode cX4_served 54 = .ok (.ireturn, 1) := by decide +kernel
theorem dX4_served_55 : decode cX4_served 55 = .ok (.aload_n 0, 1) := by decide +kernel
theorem dX4_served_56 : decode cX4_served 56 = .ok (.getfield 37, 3) := by decide +kernel
theorem dX4_served_59 : decode cX4_served 59 = .ok (.iload_n 3, 1) := by decide +kernel
theorem dX4_served_60 : decode cX4_served 60 = .ok (.invokestatic 110, 3) := by decide +kernel
theorem dX4_served_63 : decode cX4_served 63 = .ok (.istore 4, 2) := by decide +kernel
theorem dX4_served_65 : decode cX4_served 65 = .ok (.iload 4, 2) := by decide +kernel
theorem dX4_served_67 : decode cX4_served 67 = .ok (.iload_n 1, 1) := by decide +kernel
theorem dX4_served_68 : decode cX4_served 68 = .ok (.if_icmp .ne 8, 3) := by decide +kernel
theorem dX4_served_71 : decode cX4_served 71 = .ok (.aload_n 0, 1) := by decide +kernel
theorem dX4_served_72 : decode cX4_served 72 = .ok (.getfield 47, 3) := by decide +kernel
theorem dX4_served_75 : decode cX4_served 75 = .ok (.ireturn, 1) := by decide +kernel
theorem dX4_served_76 : decode cX4_served 76 = .ok (.iload 4, 2) := by decide +kernel
theorem dX4_served_78 : decode cX4_served 78 = .ok (.iload_n 1, 1) := by decide +kernel
theorem dX4_served_79 : decode cX4_served 79 = .ok (.if_icmp .ge 14, 3) := by decide +kernel
theorem dX4_served_82 : decode cX4_served 82 = .ok (.aload_n 0, 1) := by decide +kernel
theorem dX4_served_83 : decode cX4_served 83 = .ok (.iload_n 1, 1) := by decide +kernel
theorem dX4_served_84 : decode cX4_served 84 = .ok (.iconst 1, 1) := by decide +kernel
theorem dX4_served_85 : decode cX4_served 85 = .ok (.isub, 1) := by decide +kernel
theorem dX4_served_86 : decode cX4_served 86 = .ok (.iload_n 2, 1) := by decide +kernel
theorem dX4_served_87 : decode cX4_served 87 = .ok (.invokevirtual 102, 3) := by decide +kernel
theorem dX4_served_90 : decode cX4_served 90 = .ok (.goto 11, 3) := by decide +kernel
theorem dX4_served_93 : decode cX4_served 93 = .ok (.aload_n 0, 1) := by decide +kernel
theorem dX4_served_94 : decode cX4_served 94 = .ok (.iload_n 1, 1) := by decide +kernel
theorem dX4_served_95 : decode cX4_served 95 = .ok (.iload_n 2, 1) := by decide +kernel
theorem dX4_served_96 : decode cX4_served 96 = .ok (.iconst 1, 1) := by decide +kernel
theorem dX4_served_97 : decode cX4_served 97 = .ok (.isub, 1) := by decide +kernel
theorem dX4_served_98 : decode cX4_served 98 = .ok (.invokevirtual 102, 3) := by decide +kernel
theorem dX4_served_101 : decode cX4_served 101 = .ok (.ireturn, 1) := by decide +kernel
theorem dX4_follows_0 : decode cX4_follows 0 = .ok (.iload_n 1, 1) := by decide +kernel
theorem dX4_follows_1 : decode cX4_follows 1 = .ok (.ifCond .lt 7, 3) := by decide +kernel
theorem dX4_follows_4 : decode cX4_follows 4 = .ok (.iload_n 2, 1) := by decide +kernel
theorem dX4_follows_5 : decode cX4_follows 5 = .ok (.ifCond .ge 5, 3) := by decide +kernel
theorem dX4_follows_8 : decode cX4_follows 8 = .ok (.iconst 0, 1) := by decide +kernel
theorem dX4_follows_9 : decode cX4_follows 9 = .ok (.ireturn, 1) := by decide +kernel
theorem dX4_follows_10 : decode cX4_follows 10 = .ok (.aload_n 0, 1) := by decide +kernel
theorem dX4_follows_11 : decode cX4_follows 11 = .ok (.getfield 11, 3) := by decide +kernel
theorem dX4_follows_14 : decode cX4_follows 14 = .ok (.iload_n 1, 1) := by decide +kernel
theorem dX4_follows_15 : decode cX4_follows 15 = .ok (.iload_n 2, 1) := by decide +kernel
theorem dX4_follows_16 : decode cX4_follows 16 = .ok (.invokestatic 84, 3) := by decide +kernel
theorem dX4_follows_19 : decode cX4_follows 19 = .ok (.iaload, 1) := by decide +kernel
theorem dX4_follows_20 : decode cX4_follows 20 = .ok (.istore_n 3, 1) := by decide +kernel
theorem dX4_follows_21 : decode cX4_follows 21 = .ok (.iload_n 1, 1) := by decide +kernel
theorem dX4_follows_22 : decode cX4_follows 22 = .ok (.iload_n 2, 1) := by decide +kernel
theorem dX4_follows_23 : decode cX4_follows 23 = .ok (.iadd, 1) := by decide +kernel
theorem dX4_follows_24 : decode cX4_follows 24 = .ok (.bipush 12, 2) := by decide +kernel
theorem dX4_follows_26 : decode cX4_follows 26 = .ok (.if_icmp .lt 5, 3) := by decide +kernel
theorem dX4_follows_29 : decode cX4_follows 29 = .ok (.iload_n 3, 1) := by decide +kernel
theorem dX4_follows_30 : decode cX4_follows 30 = .ok (.ireturn, 1) := by decide +kernel
theorem dX4_follows_31 : decode cX4_follows 31 = .ok (.aload_n 0, 1) := by decide +kernel
theorem dX4_follows_32 : decode cX4_follows 32 = .ok (.getfield 66, 3) := by decide +kernel
theorem dX4_follows_35 : decode cX4_follows 35 = .ok (.aload_n 0, 1) := by decide +kernel
theorem dX4_follows_36 : decode cX4_follows 36 = .ok (.getfield 11, 3) := by decide +kernel
theorem dX4_follows_39 : decode cX4_follows 39 = .ok (.iload_n 1, 1) := by decide +kernel
theorem dX4_follows_40 : decode cX4_follows 40 = .ok (.iload_n 2, 1) := by decide +kernel
theorem dX4_follows_41 : decode cX4_follows 41 = .ok (.iconst 1, 1) := by decide +kernel
theorem dX4_follows_42 : decode cX4_follows 42 = .ok (.iadd, 1) := by decide +kernel
theorem dX4_follows_43 : decode cX4_follows 43 = .ok (.invokestatic 84, 3) := by decide +kernel
theorem dX4_follows_46 : decode cX4_follows 46 = .ok (.iaload, 1) := by decide +kernel
theorem dX4_follows_47 : decode cX4_follows 47 = .ok (.imul, 1) := by decide +kernel
theorem dX4_follows_48 : decode cX4_follows 48 = .ok (.bipush 16, 2) := by decide +kernel
theorem dX4_follows_50 : decode cX4_follows 50 = .ok (.aload_n 0, 1) := by decide +kernel
theorem dX4_follows_51 : decode cX4_follows 51 = .ok (.getfield 66, 3) := by decide +kernel
theorem dX4_follows_54 : decode cX4_follows 54 = .ok (.isub, 1) := by decide +kernel
theorem dX4_follows_55 : decode cX4_follows 55 = .ok (.iload_n 3, 1) := by decide +kernel
theorem dX4_follows_56 : decode cX4_follows 56 = .ok (.imul, 1) := by decide +kernel
theorem dX4_follows_57 : decode cX4_follows 57 = .ok (.iadd, 1) := by decide +kernel
theorem dX4_follows_58 : decode cX4_follows 58 = .ok (.bipush 16, 2) := by decide +kernel
theorem dX4_follows_60 : decode cX4_follows 60 = .ok (.idiv, 1) := by decide +kernel
theorem dX4_follows_61 : decode cX4_follows 61 = .ok (.ireturn, 1) := by decide +kernel
theorem dX4_bestTime_0 : decode cX4_bestTime 0 = .ok (.iconst 5, 1) := by decide +kernel
theorem dX4_bestTime_1 : decode cX4_bestTime 1 = .ok (.istore 4, 2) := by decide +kernel
theorem dX4_bestTime_3 : decode cX4_bestTime 3 = .ok (.iload 4, 2) := by decide +kernel
theorem dX4_bestTime_5 : decode cX4_bestTime 5 = .ok (.ifCond .lt 58, 3) := by decide +kernel
theorem dX4_bestTime_8 : decode cX4_bestTime 8 = .ok (.iload_n 1, 1) := by decide +kernel
theorem dX4_bestTime_9 : decode cX4_bestTime 9 = .ok (.iload 4, 2) := by decide +kernel
theorem dX4_bestTime_11 : decode cX4_bestTime 11 = .ok (.bipush 10, 2) := by decide +kernel
theorem dX4_bestTime_13 : decode cX4_bestTime 13 = .ok (.imul, 1) := by decide +kernel
theorem dX4_bestTime_14 : decode cX4_bestTime 14 = .ok (.isub, 1) := by decide +kernel
theorem dX4_bestTime_15 : decode cX4_bestTime 15 = .ok (.istore 5, 2) := by decide +kernel
theorem dX4_bestTime_17 : decode cX4_bestTime 17 = .ok (.iload 5, 2) := by decide +kernel
theorem dX4_bestTime_19 : decode cX4_bestTime 19 = .ok (.ifCond .lt 30, 3) := by decide +kernel
theorem dX4_bestTime_22 : decode cX4_bestTime 22 = .ok (.aload_n 0, 1) := by decide +kernel
theorem dX4_bestTime_23 : decode cX4_bestTime 23 = .ok (.iload 5, 2) := by decide +kernel
theorem dX4_bestTime_25 : decode cX4_bestTime 25 = .ok (.invokevirtual 113, 3) := by decide +kernel
theorem dX4_bestTime_28 : decode cX4_bestTime 28 = .ok (.aload_n 0, 1) := by decide +kernel
theorem dX4_bestTime_29 : decode cX4_bestTime 29 = .ok (.getfield 21, 3) := by decide +kernel
theorem dX4_bestTime_32 : decode cX4_bestTime 32 = .ok (.iload 4, 2) := by decide +kernel
theorem dX4_bestTime_34 : decode cX4_bestTime 34 = .ok (.aload_n 0, 1) := by decide +kernel
theorem dX4_bestTime_35 : decode cX4_bestTime 35 = .ok (.iload_n 2, 1) := by decide +kernel
theorem dX4_bestTime_36 : decode cX4_bestTime 36 = .ok (.iload 4, 2) := by decide +kernel
theorem dX4_bestTime_38 : decode cX4_bestTime 38 = .ok (.invokestatic 117, 3) := by decide +kernel
theorem dX4_bestTime_41 : decode cX4_bestTime 41 = .ok (.iload_n 3, 1) := by decide +kernel
theorem dX4_bestTime_42 : decode cX4_bestTime 42 = .ok (.invokevirtual 120, 3) := by decide +kernel
theorem dX4_bestTime_45 : decode cX4_bestTime 45 = .ok (.iastore, 1) := by decide +kernel
theorem dX4_bestTime_46 : decode cX4_bestTime 46 = .ok (.goto 11, 3) := by decide +kernel
theorem dX4_bestTime_49 : decode cX4_bestTime 49 = .ok (.aload_n 0, 1) := by decide +kernel
theorem dX4_bestTime_50 : decode cX4_bestTime 50 = .ok (.getfield 21, 3) := by decide +kernel
theorem dX4_bestTime_53 : decode cX4_bestTime 53 = .ok (.iload 4, 2) := by decide +kernel
theorem dX4_bestTime_55 : decode cX4_bestTime 55 = .ok (.iconst 0, 1) := by decide +kernel
theorem dX4_bestTime_56 : decode cX4_bestTime 56 = .ok (.iastore, 1) := by decide +kernel
theorem dX4_bestTime_57 : decode cX4_bestTime 57 = .ok (.iinc 4 (-1), 3) := by decide +kernel
theorem dX4_bestTime_60 : decode cX4_bestTime 60 = .ok (.goto (-57), 3) := by decide +kernel
theorem dX4_bestTime_63 : decode cX4_bestTime 63 = .ok (.iconst (-1), 1) := by decide +kernel
theorem dX4_bestTime_64 : decode cX4_bestTime 64 = .ok (.istore 4, 2) := by decide +kernel
theorem dX4_bestTime_66 : decode cX4_bestTime 66 = .ok (.iconst 0, 1) := by decide +kernel
theorem dX4_bestTime_67 : decode cX4_bestTime 67 = .ok (.istore 5, 2) := by decide +kernel
theorem dX4_bestTime_69 : decode cX4_bestTime 69 = .ok (.iconst 0, 1) := by decide +kernel
theorem dX4_bestTime_70 : decode cX4_bestTime 70 = .ok (.istore 6, 2) := by decide +kernel
theorem dX4_bestTime_72 : decode cX4_bestTime 72 = .ok (.iload 6, 2) := by decide +kernel
theorem dX4_bestTime_74 : decode cX4_bestTime 74 = .ok (.bipush 6, 2) := by decide +kernel
theorem dX4_bestTime_76 : decode cX4_bestTime 76 = .ok (.if_icmp .ge 34, 3) := by decide +kernel
theorem dX4_bestTime_79 : decode cX4_bestTime 79 = .ok (.aload_n 0, 1) := by decide +kernel
theorem dX4_bestTime_80 : decode cX4_bestTime 80 = .ok (.getfield 21, 3) := by decide +kernel
theorem dX4_bestTime_83 : decode cX4_bestTime 83 = .ok (.iload 6, 2) := by decide +kernel
theorem dX4_bestTime_85 : decode cX4_bestTime 85 = .ok (.iaload, 1) := by decide +kernel
theorem dX4_bestTime_86 : decode cX4_bestTime 86 = .ok (.iload 5, 2) := by decide +kernel
theorem dX4_bestTime_88 : decode cX4_bestTime 88 = .ok (.if_icmp .le 16, 3) := by decide +kernel
theorem dX4_bestTime_91 : decode cX4_bestTime 91 = .ok (.aload_n 0, 1) := by decide +kernel
theorem dX4_bestTime_92 : decode cX4_bestTime 92 = .ok (.getfield 21, 3) := by decide +kernel
theorem dX4_bestTime_95 : decode cX4_bestTime 95 = .ok (.iload 6, 2) := by decide +kernel
theorem dX4_bestTime_97 : decode cX4_bestTime 97 = .ok (.iaload, 1) := by decide +kernel
theorem dX4_bestTime_98 : decode cX4_bestTime 98 = .ok (.istore 5, 2) := by decide +kernel
theorem dX4_bestTime_100 : decode cX4_bestTime 100 = .ok (.iload 6, 2) := by decide +kernel
theorem dX4_bestTime_102 : decode cX4_bestTime 102 = .ok (.istore 4, 2) := by decide +kernel
theorem dX4_bestTime_104 : decode cX4_bestTime 104 = .ok (.iinc 6 1, 3) := by decide +kernel
theorem dX4_bestTime_107 : decode cX4_bestTime 107 = .ok (.goto (-35), 3) := by decide +kernel
theorem dX4_bestTime_110 : decode cX4_bestTime 110 = .ok (.iload 4, 2) := by decide +kernel
