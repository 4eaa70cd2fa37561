theorem dX4_bestTime_112 : decode cX4_bestTime 112 = .ok (.ireturn, 1) := by decide +kernel
theorem dX4_digitOf_0 : decode cX4_digitOf 0 = .ok (.iload_n 0, 1) := by decide +kernel
theorem dX4_digitOf_1 : decode cX4_digitOf 1 = .ok (.istore_n 2, 1) := by decide +kernel
theorem dX4_digitOf_2 : decode cX4_digitOf 2 = .ok (.iconst 0, 1) := by decide +kernel
theorem dX4_digitOf_3 : decode cX4_digitOf 3 = .ok (.istore_n 3, 1) := by decide +kernel
theorem dX4_digitOf_4 : decode cX4_digitOf 4 = .ok (.iload_n 3, 1) := by decide +kernel
theorem dX4_digitOf_5 : decode cX4_digitOf 5 = .ok (.iload_n 1, 1) := by decide +kernel
theorem dX4_digitOf_6 : decode cX4_digitOf 6 = .ok (.if_icmp .ge 20, 3) := by decide +kernel
theorem dX4_digitOf_9 : decode cX4_digitOf 9 = .ok (.iload_n 3, 1) := by decide +kernel
theorem dX4_digitOf_10 : decode cX4_digitOf 10 = .ok (.bipush 6, 2) := by decide +kernel
theorem dX4_digitOf_12 : decode cX4_digitOf 12 = .ok (.if_icmp .ge 14, 3) := by decide +kernel
theorem dX4_digitOf_15 : decode cX4_digitOf 15 = .ok (.iload_n 2, 1) := by decide +kernel
theorem dX4_digitOf_16 : decode cX4_digitOf 16 = .ok (.bipush 13, 2) := by decide +kernel
theorem dX4_digitOf_18 : decode cX4_digitOf 18 = .ok (.idiv, 1) := by decide +kernel
theorem dX4_digitOf_19 : decode cX4_digitOf 19 = .ok (.istore_n 2, 1) := by decide +kernel
theorem dX4_digitOf_20 : decode cX4_digitOf 20 = .ok (.iinc 3 1, 3) := by decide +kernel
theorem dX4_digitOf_23 : decode cX4_digitOf 23 = .ok (.goto (-19), 3) := by decide +kernel
theorem dX4_digitOf_26 : decode cX4_digitOf 26 = .ok (.iload_n 2, 1) := by decide +kernel
theorem dX4_digitOf_27 : decode cX4_digitOf 27 = .ok (.bipush 13, 2) := by decide +kernel
theorem dX4_digitOf_29 : decode cX4_digitOf 29 = .ok (.irem, 1) := by decide +kernel
theorem dX4_digitOf_30 : decode cX4_digitOf 30 = .ok (.ireturn, 1) := by decide +kernel
theorem dX4_leastFee_0 : decode cX4_leastFee 0 = .ok (.iconst 0, 1) := by decide +kernel
theorem dX4_leastFee_1 : decode cX4_leastFee 1 = .ok (.istore_n 2, 1) := by decide +kernel
theorem dX4_leastFee_2 : decode cX4_leastFee 2 = .ok (.iconst 0, 1) := by decide +kernel
theorem dX4_leastFee_3 : decode cX4_leastFee 3 = .ok (.istore_n 3, 1) := by decide +kernel
theorem dX4_leastFee_4 : decode cX4_leastFee 4 = .ok (.iload_n 3, 1) := by decide +kernel
theorem dX4_leastFee_5 : decode cX4_leastFee 5 = .ok (.iload_n 1, 1) := by decide +kernel
theorem dX4_leastFee_6 : decode cX4_leastFee 6 = .ok (.if_icmp .ge 78, 3) := by decide +kernel
theorem dX4_leastFee_9 : decode cX4_leastFee 9 = .ok (.iload_n 3, 1) := by decide +kernel
theorem dX4_leastFee_10 : decode cX4_leastFee 10 = .ok (.bipush 60, 2) := by decide +kernel
theorem dX4_leastFee_12 : decode cX4_leastFee 12 = .ok (.if_icmp .ge 72, 3) := by decide +kernel
theorem dX4_leastFee_15 : decode cX4_leastFee 15 = .ok (.aload_n 0, 1) := by decide +kernel
theorem dX4_leastFee_16 : decode cX4_leastFee 16 = .ok (.invokevirtual 78, 3) := by decide +kernel
theorem dX4_leastFee_19 : decode cX4_leastFee 19 = .ok (.aload_n 0, 1) := by decide +kernel
theorem dX4_leastFee_20 : decode cX4_leastFee 20 = .ok (.sipush 1000, 3) := by decide +kernel
theorem dX4_leastFee_23 : decode cX4_leastFee 23 = .ok (.iload_n 2, 1) := by decide +kernel
theorem dX4_leastFee_24 : decode cX4_leastFee 24 = .ok (.imul, 1) := by decide +kernel
theorem dX4_leastFee_25 : decode cX4_leastFee 25 = .ok (.aload_n 0, 1) := by decide +kernel
theorem dX4_leastFee_26 : decode cX4_leastFee 26 = .ok (.getfield 57, 3) := by decide +kernel
theorem dX4_leastFee_29 : decode cX4_leastFee 29 = .ok (.iadd, 1) := by decide +kernel
theorem dX4_leastFee_30 : decode cX4_leastFee 30 = .ok (.putfield 63, 3) := by decide +kernel
theorem dX4_leastFee_33 : decode cX4_leastFee 33 = .ok (.iload_n 2, 1) := by decide +kernel
theorem dX4_leastFee_34 : decode cX4_leastFee 34 = .ok (.bipush 99, 2) := by decide +kernel
theorem dX4_leastFee_36 : decode cX4_leastFee 36 = .ok (.if_icmp .gt 30, 3) := by decide +kernel
theorem dX4_leastFee_39 : decode cX4_leastFee 39 = .ok (.aload_n 0, 1) := by decide +kernel
theorem dX4_leastFee_40 : decode cX4_leastFee 40 = .ok (.invokevirtual 123, 3) := by decide +kernel
theorem dX4_leastFee_43 : decode cX4_leastFee 43 = .ok (.ifCond .eq 23, 3) := by decide +kernel
theorem dX4_leastFee_46 : decode cX4_leastFee 46 = .ok (.iinc 2 1, 3) := by decide +kernel
theorem dX4_leastFee_49 : decode cX4_leastFee 49 = .ok (.aload_n 0, 1) := by decide +kernel
theorem dX4_leastFee_50 : decode cX4_leastFee 50 = .ok (.sipush 1000, 3) := by decide +kernel
theorem dX4_leastFee_53 : decode cX4_leastFee 53 = .ok (.iload_n 2, 1) := by decide +kernel
theorem dX4_leastFee_54 : decode cX4_leastFee 54 = .ok (.imul, 1) := by decide +kernel
theorem dX4_leastFee_55 : decode cX4_leastFee 55 = .ok (.aload_n 0, 1) := by decide +kernel
theorem dX4_leastFee_56 : decode cX4_leastFee 56 = .ok (.getfield 57, 3) := by decide +kernel
theorem dX4_leastFee_59 : decode cX4_leastFee 59 = .ok (.iadd, 1) := by decide +kernel
theorem dX4_leastFee_60 : decode cX4_leastFee 60 = .ok (.putfield 63, 3) := by decide +kernel
theorem dX4_leastFee_63 : decode cX4_leastFee 63 = .ok (.goto (-30), 3) := by decide +kernel
theorem dX4_leastFee_66 : decode cX4_leastFee 66 = .ok (.iload_n 2, 1) := by decide +kernel
theorem dX4_leastFee_67 : decode cX4_leastFee 67 = .ok (.bipush 99, 2) := by decide +kernel
theorem dX4_leastFee_69 : decode cX4_leastFee 69 = .ok (.if_icmp .le 5, 3) := by decide +kernel
theorem dX4_leastFee_72 : decode cX4_leastFee 72 = .ok (.iconst (-1), 1) := by decide +kernel
theorem dX4_leastFee_73 : decode cX4_leastFee 73 = .ok (.ireturn, 1) := by decide +kernel
theorem dX4_leastFee_74 : decode cX4_leastFee 74 = .ok (.aload_n 0, 1) := by decide +kernel
theorem dX4_leastFee_75 : decode cX4_leastFee 75 = .ok (.invokevirtual 81, 3) := by decide +kernel
theorem dX4_leastFee_78 : decode cX4_leastFee 78 = .ok (.iinc 3 1, 3) := by decide +kernel
theorem dX4_leastFee_81 : decode cX4_leastFee 81 = .ok (.goto (-77), 3) := by decide +kernel
theorem dX4_leastFee_84 : decode cX4_leastFee 84 = .ok (.iload_n 2, 1) := by decide +kernel
theorem dX4_leastFee_85 : decode cX4_leastFee 85 = .ok (.ireturn, 1) := by decide +kernel
theorem dX4_somebodyTurns_0 : decode cX4_somebodyTurns 0 = .ok (.iconst 0, 1) := by decide +kernel
theorem dX4_somebodyTurns_1 : decode cX4_somebodyTurns 1 = .ok (.istore_n 1, 1) := by decide +kernel
theorem dX4_somebodyTurns_2 : decode cX4_somebodyTurns 2 = .ok (.iload_n 1, 1) := by decide +kernel
theorem dX4_somebodyTurns_3 : decode cX4_somebodyTurns 3 = .ok (.bipush 12, 2) := by decide +kernel
theorem dX4_somebodyTurns_5 : decode cX4_somebodyTurns 5 = .ok (.if_icmp .gt 37, 3) := by decide +kernel
theorem dX4_somebodyTurns_8 : decode cX4_somebodyTurns 8 = .ok (.iconst 0, 1) := by decide +kernel
theorem dX4_somebodyTurns_9 : decode cX4_somebodyTurns 9 = .ok (.istore_n 2, 1) := by decide +kernel
theorem dX4_somebodyTurns_10 : decode cX4_somebodyTurns 10 = .ok (.iload_n 1, 1) := by decide +kernel
theorem dX4_somebodyTurns_11 : decode cX4_somebodyTurns 11 = .ok (.iload_n 2, 1) := by decide +kernel
theorem dX4_somebodyTurns_12 : decode cX4_somebodyTurns 12 = .ok (.iadd, 1) := by decide +kernel
theorem dX4_somebodyTurns_13 : decode cX4_somebodyTurns 13 = .ok (.bipush 12, 2) := by decide +kernel
theorem dX4_somebodyTurns_15 : decode cX4_somebodyTurns 15 = .ok (.if_icmp .gt 21, 3) := by decide +kernel
theorem dX4_somebodyTurns_18 : decode cX4_somebodyTurns 18 = .ok (.aload_n 0, 1) := by decide +kernel
theorem dX4_somebodyTurns_19 : decode cX4_somebodyTurns 19 = .ok (.iload_n 1, 1) := by decide +kernel
theorem dX4_somebodyTurns_20 : decode cX4_somebodyTurns 20 = .ok (.iload_n 2, 1) := by decide +kernel
theorem dX4_somebodyTurns_21 : decode cX4_somebodyTurns 21 = .ok (.invokevirtual 127, 3) := by decide +kernel
theorem dX4_somebodyTurns_24 : decode cX4_somebodyTurns 24 = .ok (.iconst 1, 1) := by decide +kernel
theorem dX4_somebodyTurns_25 : decode cX4_somebodyTurns 25 = .ok (.if_icmp .ne 5, 3) := by decide +kernel
theorem dX4_somebodyTurns_28 : decode cX4_somebodyTurns 28 = .ok (.iconst 1, 1) := by decide +kernel
theorem dX4_somebodyTurns_29 : decode cX4_somebodyTurns 29 = .ok (.ireturn, 1) := by decide +kernel
theorem dX4_somebodyTurns_30 : decode cX4_somebodyTurns 30 = .ok (.iinc 2 1, 3) := by decide +kernel
theorem dX4_somebodyTurns_33 : decode cX4_somebodyTurns 33 = .ok (.goto (-23), 3) := by decide +kernel
theorem dX4_somebodyTurns_36 : decode cX4_somebodyTurns 36 = .ok (.iinc 1 1, 3) := by decide +kernel
theorem dX4_somebodyTurns_39 : decode cX4_somebodyTurns 39 = .ok (.goto (-37), 3) := by decide +kernel
theorem dX4_somebodyTurns_42 : decode cX4_somebodyTurns 42 = .ok (.iconst 0, 1) := by decide +kernel
theorem dX4_somebodyTurns_43 : decode cX4_somebodyTurns 43 = .ok (.ireturn, 1) := by decide +kernel
theorem dX5_init_0 : decode cX5_init 0 = .ok (.aload_n 0, 1) := by decide +kernel
theorem dX5_init_1 : decode cX5_init 1 = .ok (.invokespecial 3, 3) := by decide +kernel
theorem dX5_init_4 : decode cX5_init 4 = .ok (.aload_n 0, 1) := by decide +kernel
theorem dX5_init_5 : decode cX5_init 5 = .ok (.iconst (-1), 1) := by decide +kernel
theorem dX5_init_6 : decode cX5_init 6 = .ok (.putfield 11, 3) := by decide +kernel
theorem dX5_init_9 : decode cX5_init 9 = .ok (.return_, 1) := by decide +kernel
theorem dX5_arrive_0 : decode cX5_arrive 0 = .ok (.aload_n 0, 1) := by decide +kernel
theorem dX5_arrive_1 : decode cX5_arrive 1 = .ok (.iconst 2, 1) := by decide +kernel
theorem dX5_arrive_2 : decode cX5_arrive 2 = .ok (.putfield 11, 3) := by decide +kernel
theorem dX5_arrive_5 : decode cX5_arrive 5 = .ok (.aload_n 0, 1) := by decide +kernel
theorem dX5_arrive_6 : decode cX5_arrive 6 = .ok (.iload_n 1, 1) := by decide +kernel
theorem dX5_arrive_7 : decode cX5_arrive 7 = .ok (.putfield 15, 3) := by decide +kernel
theorem dX5_arrive_10 : decode cX5_arrive 10 = .ok (.aload_n 0, 1) := by decide +kernel
theorem dX5_arrive_11 : decode cX5_arrive 11 = .ok (.iload_n 2, 1) := by decide +kernel
theorem dX5_arrive_12 : decode cX5_arrive 12 = .ok (.putfield 18, 3) := by decide +kernel
theorem dX5_arrive_15 : decode cX5_arrive 15 = .ok (.aload_n 0, 1) := by decide +kernel
theorem dX5_arrive_16 : decode cX5_arrive 16 = .ok (.iload_n 3, 1) := by decide +kernel
theorem dX5_arrive_17 : decode cX5_arrive 17 = .ok (.putfield 21, 3) := by decide +kernel
theorem dX5_arrive_20 : decode cX5_arrive 20 = .ok (.aload_n 0, 1) := by decide +kernel
theorem dX5_arrive_21 : decode cX5_arrive 21 = .ok (.iconst (-1), 1) := by decide +kernel
theorem dX5_arrive_22 : decode cX5_arrive 22 = .ok (.putfield 24, 3) := by decide +kernel
theorem dX5_arrive_25 : decode cX5_arrive 25 = .ok (.aload_n 0, 1) := by decide +kernel
theorem dX5_arrive_26 : decode cX5_arrive 26 = .ok (.iconst 0, 1) := by decide +kernel
theorem dX5_arrive_27 : decode cX5_arrive 27 = .ok (.putfield 27, 3) := by decide +kernel
theorem dX5_arrive_30 : decode cX5_arrive 30 = .ok (.aload_n 0, 1) := by decide +kernel
theorem dX5_arrive_31 : decode cX5_arrive 31 = .ok (.iconst (-1), 1) := by decide +kernel
theorem dX5_arrive_32 : decode cX5_arrive 32 = .ok (.putfield 30, 3) := by decide +kernel
theorem dX5_arrive_35 : decode cX5_arrive 35 = .ok (.return_, 1) := by decide +kernel
theorem dX5_takeOver_0 : decode cX5_takeOver 0 = .ok (.aload_n 0, 1) := by decide +kernel
theorem dX5_takeOver_1 : decode cX5_takeOver 1 = .ok (.aload_n 1, 1) := by decide +kernel
theorem dX5_takeOver_2 : decode cX5_takeOver 2 = .ok (.getfield 11, 3) := by decide +kernel
theorem dX5_takeOver_5 : decode cX5_takeOver 5 = .ok (.putfield 11, 3) := by decide +kernel
theorem dX5_takeOver_8 : decode cX5_takeOver 8 = .ok (.aload_n 0, 1) := by decide +kernel
theorem dX5_takeOver_9 : decode cX5_takeOver 9 = .ok (.aload_n 1, 1) := by decide +kernel
theorem dX5_takeOver_10 : decode cX5_takeOver 10 = .ok (.getfield 15, 3) := by decide +kernel
theorem dX5_takeOver_13 : decode cX5_takeOver 13 = .ok (.putfield 15, 3) := by decide +kernel
theorem dX5_takeOver_16 : decode cX5_takeOver 16 = .ok (.aload_n 0, 1) := by decide +kernel
theorem dX5_takeOver_17 : decode cX5_takeOver 17 = .ok (.aload_n 1, 1) := by decide +kernel
theorem dX5_takeOver_18 : decode cX5_takeOver 18 = .ok (.getfield 18, 3) := by decide +kernel
theorem dX5_takeOver_21 : decode cX5_takeOver 21 = .ok (.putfield 18, 3) := by decide +kernel
theorem dX5_takeOver_24 : decode cX5_takeOver 24 = .ok (.aload_n 0, 1) := by decide +kernel
theorem dX5_takeOver_25 : decode cX5_takeOver 25 = .ok (.aload_n 1, 1) := by decide +kernel
theorem dX5_takeOver_26 : decode cX5_takeOver 26 = .ok (.getfield 21, 3) := by decide +kernel
theorem dX5_takeOver_29 : decode cX5_takeOver 29 = .ok (.putfield 21, 3) := by decide +kernel
theorem dX5_takeOver_32 : decode cX5_takeOver 32 = .ok (.aload_n 0, 1) := by decide +kernel
theorem dX5_takeOver_33 : decode cX5_takeOver 33 = .ok (.aload_n 1, 1) := by decide +kernel
theorem dX5_takeOver_34 : decode cX5_takeOver 34 = .ok (.getfield 24, 3) := by decide +kernel
theorem dX5_takeOver_37 : decode cX5_takeOver 37 = .ok (.putfield 24, 3) := by decide +kernel
theorem dX5_takeOver_40 : decode cX5_takeOver 40 = .ok (.aload_n 0, 1) := by decide +kernel
theorem dX5_takeOver_41 : decode cX5_takeOver 41 = .ok (.aload_n 1, 1) := by decide +kernel
theorem dX5_takeOver_42 : decode cX5_takeOver 42 = .ok (.getfield 27, 3) := by decide +kernel
theorem dX5_takeOver_45 : decode cX5_takeOver 45 = .ok (.putfield 27, 3) := by decide +kernel
theorem dX5_takeOver_48 : decode cX5_takeOver 48 = .ok (.aload_n 0, 1) := by decide +kernel
theorem dX5_takeOver_49 : decode cX5_takeOver 49 = .ok (.aload_n 1, 1) := by decide +kernel
theorem dX5_takeOver_50 : decode cX5_takeOver 50 = .ok (.getfield 30, 3) := by decide +kernel
theorem dX5_takeOver_53 : decode cX5_takeOver 53 = .ok (.putfield 30, 3) := by decide +kernel
theorem dX5_takeOver_56 : decode cX5_takeOver 56 = .ok (.return_, 1) := by decide +kernel
theorem dX5_fact_0 : decode cX5_fact 0 = .ok (.iload_n 1, 1) := by decide +kernel
theorem dX5_fact_1 : decode cX5_fact 1 = .ok (.tableswitch 82 0 7 #[47, 52, 57, 62, 67, 72, 82, 77], 47) := by decide +kernel
theorem dX5_fact_48 : decode cX5_fact 48 = .ok (.aload_n 0, 1) := by decide +kernel
theorem dX5_fact_49 : decode cX5_fact 49 = .ok (.getfield 15, 3) := by decide +kernel
theorem dX5_fact_52 : decode cX5_fact 52 = .ok (.ireturn, 1) := by decide +kernel
theorem dX5_fact_53 : decode cX5_fact 53 = .ok (.aload_n 0, 1) := by decide +kernel
theorem dX5_fact_54 : decode cX5_fact 54 = .ok (.getfield 18, 3) := by decide +kernel
theorem dX5_fact_57 : decode cX5_fact 57 = .ok (.ireturn, 1) := by decide +kernel
theorem dX5_fact_58 : decode cX5_fact 58 = .ok (.aload_n 0, 1) := by decide +kernel
theorem dX5_fact_59 : decode cX5_fact 59 = .ok (.getfield 11, 3) := by decide +kernel
theorem dX5_fact_62 : decode cX5_fact 62 = .ok (.ireturn, 1) := by decide +kernel
theorem dX5_fact_63 : decode cX5_fact 63 = .ok (.aload_n 0, 1) := by decide +kernel
theorem dX5_fact_64 : decode cX5_fact 64 = .ok (.getfield 21, 3) := by decide +kernel
theorem dX5_fact_67 : decode cX5_fact 67 = .ok (.ireturn, 1) := by decide +kernel
theorem dX5_fact_68 : decode cX5_fact 68 = .ok (.aload_n 0, 1) := by decide +kernel
theorem dX5_fact_69 : decode cX5_fact 69 = .ok (.getfield 24, 3) := by decide +kernel
theorem dX5_fact_72 : decode cX5_fact 72 = .ok (.ireturn, 1) := by decide +kernel
theorem dX5_fact_73 : decode cX5_fact 73 = .ok (.aload_n 0, 1) := by decide +kernel
theorem dX5_fact_74 : decode cX5_fact 74 = .ok (.getfield 27, 3) := by decide +kernel
theorem dX5_fact_77 : decode cX5_fact 77 = .ok (.ireturn, 1) := by decide +kernel
theorem dX5_fact_78 : decode cX5_fact 78 = .ok (.aload_n 0, 1) := by decide +kernel
theorem dX5_fact_79 : decode cX5_fact 79 = .ok (.getfield 30, 3) := by decide +kernel
theorem dX5_fact_82 : decode cX5_fact 82 = .ok (.ireturn, 1) := by decide +kernel
theorem dX5_fact_83 : decode cX5_fact 83 = .ok (.iconst (-1), 1) := by decide +kernel
theorem dX5_fact_84 : decode cX5_fact 84 = .ok (.ireturn, 1) := by decide +kernel
theorem dX6_init_0 : decode cX6_init 0 = .ok (.aload_n 0, 1) := by decide +kernel
theorem dX6_init_1 : decode cX6_init 1 = .ok (.invokespecial 3, 3) := by decide +kernel
theorem dX6_init_4 : decode cX6_init 4 = .ok (.aload_n 0, 1) := by decide +kernel
theorem dX6_init_5 : decode cX6_init 5 = .ok (.bipush 8, 2) := by decide +kernel
theorem dX6_init_7 : decode cX6_init 7 = .ok (.newarray .int, 2) := by decide +kernel
theorem dX6_init_9 : decode cX6_init 9 = .ok (.putfield 9, 3) := by decide +kernel
theorem dX6_init_12 : decode cX6_init 12 = .ok (.aload_n 0, 1) := by decide +kernel
theorem dX6_init_13 : decode cX6_init 13 = .ok (.bipush 8, 2) := by decide +kernel
theorem dX6_init_15 : decode cX6_init 15 = .ok (.newarray .int, 2) := by decide +kernel
theorem dX6_init_17 : decode cX6_init 17 = .ok (.putfield 15, 3) := by decide +kernel
theorem dX6_init_20 : decode cX6_init 20 = .ok (.aload_n 0, 1) := by decide +kernel
theorem dX6_init_21 : decode cX6_init 21 = .ok (.bipush 8, 2) := by decide +kernel
theorem dX6_init_23 : decode cX6_init 23 = .ok (.newarray .int, 2) := by decide +kernel
theorem dX6_init_25 : decode cX6_init 25 = .ok (.putfield 18, 3) := by decide +kernel
theorem dX6_init_28 : decode cX6_init 28 = .ok (.aload_n 0, 1) := by decide +kernel
theorem dX6_init_29 : decode cX6_init 29 = .ok (.bipush 8, 2) := by decide +kernel
theorem dX6_init_31 : decode cX6_init 31 = .ok (.newarray .int, 2) := by decide +kernel
theorem dX6_init_33 : decode cX6_init 33 = .ok (.putfield 21, 3) := by decide +kernel
theorem dX6_init_36 : decode cX6_init 36 = .ok (.aload_n 0, 1) := by decide +kernel
theorem dX6_init_37 : decode cX6_init 37 = .ok (.bipush 8, 2) := by decide +kernel
theorem dX6_init_39 : decode cX6_init 39 = .ok (.newarray .int, 2) := by decide +kernel
theorem dX6_init_41 : decode cX6_init 41 = .ok (.putfield 24, 3) := by decide +kernel
theorem dX6_init_44 : decode cX6_init 44 = .ok (.aload_n 0, 1) := by decide +kernel
theorem dX6_init_45 : decode cX6_init 45 = .ok (.sipush 256, 3) := by decide +kernel
theorem dX6_init_48 : decode cX6_init 48 = .ok (.newarray .int, 2) := by decide +kernel
theorem dX6_init_50 : decode cX6_init 50 = .ok (.putfield 27, 3) := by decide +kernel
theorem dX6_init_53 : decode cX6_init 53 = .ok (.aload_n 0, 1) := by decide +kernel
theorem dX6_init_54 : decode cX6_init 54 = .ok (.aload_n 1, 1) := by decide +kernel
theorem dX6_init_55 : decode cX6_init 55 = .ok (.putfield 30, 3) := by decide +kernel
theorem dX6_init_58 : decode cX6_init 58 = .ok (.aload_n 0, 1) := by decide +kernel
theorem dX6_init_59 : decode cX6_init 59 = .ok (.aload_n 2, 1) := by decide +kernel
theorem dX6_init_60 : decode cX6_init 60 = .ok (.putfield 34, 3) := by decide +kernel
theorem dX6_init_63 : decode cX6_init 63 = .ok (.return_, 1) := by decide +kernel
theorem dX6_append_0 : decode cX6_append 0 = .ok (.aload_n 0, 1) := by decide +kernel
theorem dX6_append_1 : decode cX6_append 1 = .ok (.getfield 38, 3) := by decide +kernel
theorem dX6_append_4 : decode cX6_append 4 = .ok (.ifCond .lt 34, 3) := by decide +kernel
theorem dX6_append_7 : decode cX6_append 7 = .ok (.aload_n 0, 1) := by decide +kernel
theorem dX6_append_8 : decode cX6_append 8 = .ok (.getfield 38, 3) := by decide +kernel
theorem dX6_append_11 : decode cX6_append 11 = .ok (.bipush 8, 2) := by decide +kernel
theorem dX6_append_13 : decode cX6_append 13 = .ok (.if_icmp .ge 25, 3) := by decide +kernel
theorem dX6_append_16 : decode cX6_append 16 = .ok (.iload_n 1, 1) := by decide +kernel
theorem dX6_append_17 : decode cX6_append 17 = .ok (.ifCond .lt 21, 3) := by decide +kernel
theorem dX6_append_20 : decode cX6_append 20 = .ok (.iload_n 1, 1) := by decide +kernel
theorem dX6_append_21 : decode cX6_append 21 = .ok (.sipush 200, 3) := by decide +kernel
theorem dX6_append_24 : decode cX6_append 24 = .ok (.if_icmp .gt 14, 3) := by decide +kernel
theorem dX6_append_27 : decode cX6_append 27 = .ok (.iload_n 2, 1) := by decide +kernel
theorem dX6_append_28 : decode cX6_append 28 = .ok (.iconst 1, 1) := by decide +kernel
theorem dX6_append_29 : decode cX6_append 29 = .ok (.if_icmp .lt 9, 3) := by decide +kernel
theorem dX6_append_32 : decode cX6_append 32 = .ok (.iload_n 2, 1) := by decide +kernel
theorem dX6_append_33 : decode cX6_append 33 = .ok (.bipush 20, 2) := by decide +kernel
theorem dX6_append_35 : decode cX6_append 35 = .ok (.if_icmp .le 5, 3) := by decide +kernel
theorem dX6_append_38 : decode cX6_append 38 = .ok (.iconst (-1), 1) := by decide +kernel
theorem dX6_append_39 : decode cX6_append 39 = .ok (.ireturn, 1) := by decide +kernel
theorem dX6_append_40 : decode cX6_append 40 = .ok (.aload_n 0, 1) := by decide +kernel
theorem dX6_append_41 : decode cX6_append 41 = .ok (.getfield 38, 3) := by decide +kernel
theorem dX6_append_44 : decode cX6_append 44 = .ok (.ifCond .le 20, 3) := by decide +kernel
theorem dX6_append_47 : decode cX6_append 47 = .ok (.iload_n 1, 1) := by decide +kernel
theorem dX6_append_48 : decode cX6_append 48 = .ok (.aload_n 0, 1) := by decide +kernel
theorem dX6_append_49 : decode cX6_append 49 = .ok (.getfield 9, 3) := by decide +kernel
theorem dX6_append_52 : decode cX6_append 52 = .ok (.aload_n 0, 1) := by decide +kernel
theorem dX6_append_53 : decode cX6_append 53 = .ok (.getfield 38, 3) := by decide +kernel
theorem dX6_append_56 : decode cX6_append 56 = .ok (.iconst 1, 1) := by decide +kernel
theorem dX6_append_57 : decode cX6_append 57 = .ok (.isub, 1) := by decide +kernel
theorem dX6_append_58 : decode cX6_append 58 = .ok (.iaload, 1) := by decide +kernel
theorem dX6_append_59 : decode cX6_append 59 = .ok (.if_icmp .ge 5, 3) := by decide +kernel
theorem dX6_append_62 : decode cX6_append 62 = .ok (.iconst (-1), 1) := by decide +kernel
theorem dX6_append_63 : decode cX6_append 63 = .ok (.ireturn, 1) := by decide +kernel
theorem dX6_append_64 : decode cX6_append 64 = .ok (.aload_n 0, 1) := by decide +kernel
theorem dX6_append_65 : decode cX6_append 65 = .ok (.getfield 9, 3) := by decide +kernel
theorem dX6_append_68 : decode cX6_append 68 = .ok (.aload_n 0, 1) := by decide +kernel
theorem dX6_append_69 : decode cX6_append 69 = .ok (.getfield 38, 3) := by decide +kernel
theorem dX6_append_72 : decode cX6_append 72 = .ok (.iload_n 1, 1) := by decide +kernel
theorem dX6_append_73 : decode cX6_append 73 = .ok (.iastore, 1) := by decide +kernel
theorem dX6_append_74 : decode cX6_append 74 = .ok (.aload_n 0, 1) := by decide +kernel
theorem dX6_append_75 : decode cX6_append 75 = .ok (.getfield 15, 3) := by decide +kernel
theorem dX6_append_78 : decode cX6_append 78 = .ok (.aload_n 0, 1) := by decide +kernel
theorem dX6_append_79 : decode cX6_append 79 = .ok (.getfield 38, 3) := by decide +kernel
theorem dX6_append_82 : decode cX6_append 82 = .ok (.iload_n 2, 1) := by decide +kernel
theorem dX6_append_83 : decode cX6_append 83 = .ok (.iastore, 1) := by decide +kernel
theorem dX6_append_84 : decode cX6_append 84 = .ok (.aload_n 0, 1) := by decide +kernel
theorem dX6_append_85 : decode cX6_append 85 = .ok (.dup, 1) := by decide +kernel
theorem dX6_append_86 : decode cX6_append 86 = .ok (.getfield 38, 3) := by decide +kernel
theorem dX6_append_89 : decode cX6_append 89 = .ok (.iconst 1, 1) := by decide +kernel
theorem dX6_append_90 : decode cX6_append 90 = .ok (.iadd, 1) := by decide +kernel
theorem dX6_append_91 : decode cX6_append 91 = .ok (.putfield 38, 3) := by decide +kernel
theorem dX6_append_94 : decode cX6_append 94 = .ok (.aload_n 0, 1) := by decide +kernel
theorem dX6_append_95 : decode cX6_append 95 = .ok (.getfield 38, 3) := by decide +kernel
theorem dX6_append_98 : decode cX6_append 98 = .ok (.ireturn, 1) := by decide +kernel
theorem dX6_servedAt_0 : decode cX6_servedAt 0 = .ok (.iload_n 1, 1) := by decide +kernel
theorem dX6_servedAt_1 : decode cX6_servedAt 1 = .ok (.ifCond .lt 26, 3) := by decide +kernel
theorem dX6_servedAt_4 : decode cX6_servedAt 4 = .ok (.iload_n 1, 1) := by decide +kernel
theorem dX6_servedAt_5 : decode cX6_servedAt 5 = .ok (.aload_n 0, 1) := by decide +kernel
theorem dX6_servedAt_6 : decode cX6_servedAt 6 = .ok (.getfield 38, 3) := by decide +kernel
theorem dX6_servedAt_9 : decode cX6_servedAt 9 = .ok (.if_icmp .ge 18, 3) := by decide +kernel
theorem dX6_servedAt_12 : decode cX6_servedAt 12 = .ok (.iload_n 1, 1) := by decide +kernel
theorem dX6_servedAt_13 : decode cX6_servedAt 13 = .ok (.bipush 8, 2) := by decide +kernel
theorem dX6_servedAt_15 : decode cX6_servedAt 15 = .ok (.if_icmp .ge 12, 3) := by decide +kernel
theorem dX6_servedAt_18 : decode cX6_servedAt 18 = .ok (.aload_n 0, 1) := by decide +kernel
theorem dX6_servedAt_19 : decode cX6_servedAt 19 = .ok (.getfield 18, 3) := by decide +kernel
theorem dX6_servedAt_22 : decode cX6_servedAt 22 = .ok (.iload_n 1, 1) := by decide +kernel
theorem dX6_servedAt_23 : decode cX6_servedAt 23 = .ok (.iaload, 1) := by decide +kernel
theorem dX6_servedAt_24 : decode cX6_servedAt 24 = .ok (.goto 4, 3) := by decide +kernel
theorem dX6_servedAt_27 : decode cX6_servedAt 27 = .ok (.iconst (-1), 1) := by decide +kernel
theorem dX6_servedAt_28 : decode cX6_servedAt 28 = .ok (.ireturn, 1) := by decide +kernel
theorem dX6_waitOf_0 : decode cX6_waitOf 0 = .ok (.iload_n 1, 1) := by decide +kernel
theorem dX6_waitOf_1 : decode cX6_waitOf 1 = .ok (.ifCond .lt 26, 3) := by decide +kernel
theorem dX6_waitOf_4 : decode cX6_waitOf 4 = .ok (.iload_n 1, 1) := by decide +kernel
theorem dX6_waitOf_5 : decode cX6_waitOf 5 = .ok (.aload_n 0, 1) := by decide +kernel
theorem dX6_waitOf_6 : decode cX6_waitOf 6 = .ok (.getfield 38, 3) := by decide +kernel
theorem dX6_waitOf_9 : decode cX6_waitOf 9 = .ok (.if_icmp .ge 18, 3) := by decide +kernel
theorem dX6_waitOf_12 : decode cX6_waitOf 12 = .ok (.iload_n 1, 1) := by decide +kernel
theorem dX6_waitOf_13 : decode cX6_waitOf 13 = .ok (.bipush 8, 2) := by decide +kernel
theorem dX6_waitOf_15 : decode cX6_waitOf 15 = .ok (.if_icmp .ge 12, 3) := by decide +kernel
theorem dX6_waitOf_18 : decode cX6_waitOf 18 = .ok (.aload_n 0, 1) := by decide +kernel
theorem dX6_waitOf_19 : decode cX6_waitOf 19 = .ok (.getfield 21, 3) := by decide +kernel
theorem dX6_waitOf_22 : decode cX6_waitOf 22 = .ok (.iload_n 1, 1) := by decide +kernel
theorem dX6_waitOf_23 : decode cX6_waitOf 23 = .ok (.iaload, 1) := by decide +kernel
theorem dX6_waitOf_24 : decode cX6_waitOf 24 = .ok (.goto 4, 3) := by decide +kernel
theorem dX6_waitOf_27 : decode cX6_waitOf 27 = .ok (.iconst (-1), 1) := by decide +kernel
theorem dX6_waitOf_28 : decode cX6_waitOf 28 = .ok (.ireturn, 1) := by decide +kernel
theorem dX6_together_0 : decode cX6_together 0 = .ok (.iconst 0, 1) := by decide +kernel
theorem dX6_together_1 : decode cX6_together 1 = .ok (.istore_n 1, 1) := by decide +kernel
theorem dX6_together_2 : decode cX6_together 2 = .ok (.iconst 0, 1) := by decide +kernel
theorem dX6_together_3 : decode cX6_together 3 = .ok (.istore_n 2, 1) := by decide +kernel
theorem dX6_together_4 : decode cX6_together 4 = .ok (.iload_n 2, 1) := by decide +kernel
theorem dX6_together_5 : decode cX6_together 5 = .ok (.aload_n 0, 1) := by decide +kernel
theorem dX6_together_6 : decode cX6_together 6 = .ok (.getfield 38, 3) := by decide +kernel
theorem dX6_together_9 : decode cX6_together 9 = .ok (.if_icmp .ge 24, 3) := by decide +kernel
theorem dX6_together_12 : decode cX6_together 12 = .ok (.iload_n 2, 1) := by decide +kernel
theorem dX6_together_13 : decode cX6_together 13 = .ok (.bipush 8, 2) := by decide +kernel
theorem dX6_together_15 : decode cX6_together 15 = .ok (.if_icmp .ge 18, 3) := by decide +kernel
theorem dX6_together_18 : decode cX6_together 18 = .ok (.iload_n 1, 1) := by decide +kernel
theorem dX6_together_19 : decode cX6_together 19 = .ok (.aload_n 0, 1) := by decide +kernel
theorem dX6_together_20 : decode cX6_together 20 = .ok (.getfield 21, 3) := by decide +kernel
theorem dX6_together_23 : decode cX6_together 23 = .ok (.iload_n 2, 1) := by decide +kernel
theorem dX6_together_24 : decode cX6_together 24 = .ok (.iaload, 1) := by decide +kernel
theorem dX6_together_25 : decode cX6_together 25 = .ok (.iadd, 1) := by decide +kernel
theorem dX6_together_26 : decode cX6_together 26 = .ok (.istore_n 1, 1) := by decide +kernel
theorem dX6_together_27 : decode cX6_together 27 = .ok (.iinc 2 1, 3) := by decide +kernel
theorem dX6_together_30 : decode cX6_together 30 = .ok (.goto (-26), 3) := by decide +kernel
theorem dX6_together_33 : decode cX6_together 33 = .ok (.iload_n 1, 1) := by decide +kernel
theorem dX6_together_34 : decode cX6_together 34 = .ok (.ireturn, 1) := by decide +kernel
theorem dX6_longest_0 : decode cX6_longest 0 = .ok (.iconst 0, 1) := by decide +kernel
theorem dX6_longest_1 : decode cX6_longest 1 = .ok (.istore_n 1, 1) := by decide +kernel
theorem dX6_longest_2 : decode cX6_longest 2 = .ok (.iconst 0, 1) := by decide +kernel
theorem dX6_longest_3 : decode cX6_longest 3 = .ok (.istore_n 2, 1) := by decide +kernel
theorem dX6_longest_4 : decode cX6_longest 4 = .ok (.iload_n 2, 1) := by decide +kernel
theorem dX6_longest_5 : decode cX6_longest 5 = .ok (.aload_n 0, 1) := by decide +kernel
theorem dX6_longest_6 : decode cX6_longest 6 = .ok (.getfield 38, 3) := by decide +kernel
theorem dX6_longest_9 : decode cX6_longest 9 = .ok (.if_icmp .ge 26, 3) := by decide +kernel
theorem dX6_longest_12 : decode cX6_longest 12 = .ok (.iload_n 2, 1) := by decide +kernel
theorem dX6_longest_13 : decode cX6_longest 13 = .ok (.bipush 8, 2) := by decide +kernel
theorem dX6_longest_15 : decode cX6_longest 15 = .ok (.if_icmp .ge 20, 3) := by decide +kernel
theorem dX6_longest_18 : decode cX6_longest 18 = .ok (.iload_n 1, 1) := by decide +kernel
theorem dX6_longest_19 : decode cX6_longest 19 = .ok (.aload_n 0, 1) := by decide +kernel
theorem dX6_longest_20 : decode cX6_longest 20 = .ok (.getfield 21, 3) := by decide +kernel
theorem dX6_longest_23 : decode cX6_longest 23 = .ok (.iload_n 2, 1) := by decide +kernel
theorem dX6_longest_24 : decode cX6_longest 24 = .ok (.iaload, 1) := by decide +kernel
theorem dX6_longest_25 : decode cX6_longest 25 = .ok (.invokestatic 42, 3) := by decide +kernel
theorem dX6_longest_28 : decode cX6_longest 28 = .ok (.istore_n 1, 1) := by decide +kernel
theorem dX6_longest_29 : decode cX6_longest 29 = .ok (.iinc 2 1, 3) := by decide +kernel
theorem dX6_longest_32 : decode cX6_longest 32 = .ok (.goto (-28), 3) := by decide +kernel
theorem dX6_longest_35 : decode cX6_longest 35 = .ok (.iload_n 1, 1) := by decide +kernel
theorem dX6_longest_36 : decode cX6_longest 36 = .ok (.ireturn, 1) := by decide +kernel
theorem dX6_unlikeOfAll_0 : decode cX6_unlikeOfAll 0 = .ok (.iconst 0, 1) := by decide +kernel
theorem dX6_unlikeOfAll_1 : decode cX6_unlikeOfAll 1 = .ok (.istore_n 1, 1) := by decide +kernel
theorem dX6_unlikeOfAll_2 : decode cX6_unlikeOfAll 2 = .ok (.iconst 0, 1) := by decide +kernel
theorem dX6_unlikeOfAll_3 : decode cX6_unlikeOfAll 3 = .ok (.istore_n 2, 1) := by decide +kernel
theorem dX6_unlikeOfAll_4 : decode cX6_unlikeOfAll 4 = .ok (.iload_n 2, 1) := by decide +kernel
theorem dX6_unlikeOfAll_5 : decode cX6_unlikeOfAll 5 = .ok (.aload_n 0, 1) := by decide +kernel
theorem dX6_unlikeOfAll_6 : decode cX6_unlikeOfAll 6 = .ok (.getfield 38, 3) := by decide +kernel
theorem dX6_unlikeOfAll_9 : decode cX6_unlikeOfAll 9 = .ok (.if_icmp .ge 31, 3) := by decide +kernel
theorem dX6_unlikeOfAll_12 : decode cX6_unlikeOfAll 12 = .ok (.iload_n 2, 1) := by decide +kernel
theorem dX6_unlikeOfAll_13 : decode cX6_unlikeOfAll 13 = .ok (.bipush 8, 2) := by decide +kernel
theorem dX6_unlikeOfAll_15 : decode cX6_unlikeOfAll 15 = .ok (.if_icmp .ge 25, 3) := by decide +kernel
theorem dX6_unlikeOfAll_18 : decode cX6_unlikeOfAll 18 = .ok (.iload_n 1, 1) := by decide +kernel
theorem dX6_unlikeOfAll_19 : decode cX6_unlikeOfAll 19 = .ok (.aload_n 0, 1) := by decide +kernel
theorem dX6_unlikeOfAll_20 : decode cX6_unlikeOfAll 20 = .ok (.getfield 21, 3) := by decide +kernel
theorem dX6_unlikeOfAll_23 : decode cX6_unlikeOfAll 23 = .ok (.iload_n 2, 1) := by decide +kernel
theorem dX6_unlikeOfAll_24 : decode cX6_unlikeOfAll 24 = .ok (.iaload, 1) := by decide +kernel
theorem dX6_unlikeOfAll_25 : decode cX6_unlikeOfAll 25 = .ok (.aload_n 0, 1) := by decide +kernel
theorem dX6_unlikeOfAll_26 : decode cX6_unlikeOfAll 26 = .ok (.getfield 21, 3) := by decide +kernel
theorem dX6_unlikeOfAll_29 : decode cX6_unlikeOfAll 29 = .ok (.iload_n 2, 1) := by decide +kernel
theorem dX6_unlikeOfAll_30 : decode cX6_unlikeOfAll 30 = .ok (.iaload, 1) := by decide +kernel
theorem dX6_unlikeOfAll_31 : decode cX6_unlikeOfAll 31 = .ok (.imul, 1) := by decide +kernel
theorem dX6_unlikeOfAll_32 : decode cX6_unlikeOfAll 32 = .ok (.iadd, 1) := by decide +kernel
theorem dX6_unlikeOfAll_33 : decode cX6_unlikeOfAll 33 = .ok (.istore_n 1, 1) := by decide +kernel
theorem dX6_unlikeOfAll_34 : decode cX6_unlikeOfAll 34 = .ok (.iinc 2 1, 3) := by decide +kernel
theorem dX6_unlikeOfAll_37 : decode cX6_unlikeOfAll 37 = .ok (.goto (-33), 3) := by decide +kernel
theorem dX6_unlikeOfAll_40 : decode cX6_unlikeOfAll 40 = .ok (.aload_n 0, 1) := by decide +kernel
theorem dX6_unlikeOfAll_41 : decode cX6_unlikeOfAll 41 = .ok (.getfield 38, 3) := by decide +kernel
theorem dX6_unlikeOfAll_44 : decode cX6_unlikeOfAll 44 = .ok (.i2l, 1) := by decide +kernel
theorem dX6_unlikeOfAll_45 : decode cX6_unlikeOfAll 45 = .ok (.aload_n 0, 1) := by decide +kernel
theorem dX6_unlikeOfAll_46 : decode cX6_unlikeOfAll 46 = .ok (.invokevirtual 48, 3) := by decide +kernel
theorem dX6_unlikeOfAll_49 : decode cX6_unlikeOfAll 49 = .ok (.i2l, 1) := by decide +kernel
theorem dX6_unlikeOfAll_50 : decode cX6_unlikeOfAll 50 = .ok (.iload_n 1, 1) := by decide +kernel
theorem dX6_unlikeOfAll_51 : decode cX6_unlikeOfAll 51 = .ok (.i2l, 1) := by decide +kernel
theorem dX6_unlikeOfAll_52 : decode cX6_unlikeOfAll 52 = .ok (.invokestatic 52, 3) := by decide +kernel
theorem dX6_unlikeOfAll_55 : decode cX6_unlikeOfAll 55 = .ok (.ireturn, 1) := by decide +kernel
theorem dX6_serveAll_0 : decode cX6_serveAll 0 = .ok (.iconst 0, 1) := by decide +kernel
theorem dX6_serveAll_1 : decode cX6_serveAll 1 = .ok (.istore_n 2, 1) := by decide +kernel
theorem dX6_serveAll_2 : decode cX6_serveAll 2 = .ok (.iconst 0, 1) := by decide +kernel
theorem dX6_serveAll_3 : decode cX6_serveAll 3 = .ok (.istore_n 3, 1) := by decide +kernel
theorem dX6_serveAll_4 : decode cX6_serveAll 4 = .ok (.iconst 0, 1) := by decide +kernel
theorem dX6_serveAll_5 : decode cX6_serveAll 5 = .ok (.istore 4, 2) := by decide +kernel
theorem dX6_serveAll_7 : decode cX6_serveAll 7 = .ok (.iload 4, 2) := by decide +kernel
theorem dX6_serveAll_9 : decode cX6_serveAll 9 = .ok (.aload_n 0, 1) := by decide +kernel
theorem dX6_serveAll_10 : decode cX6_serveAll 10 = .ok (.getfield 38, 3) := by decide +kernel
theorem dX6_serveAll_13 : decode cX6_serveAll 13 = .ok (.if_icmp .ge 87, 3) := by decide +kernel
theorem dX6_serveAll_16 : decode cX6_serveAll 16 = .ok (.iload 4, 2) := by decide +kernel
theorem dX6_serveAll_18 : decode cX6_serveAll 18 = .ok (.bipush 8, 2) := by decide +kernel
theorem dX6_serveAll_20 : decode cX6_serveAll 20 = .ok (.if_icmp .ge 80, 3) := by decide +kernel
theorem dX6_serveAll_23 : decode cX6_serveAll 23 = .ok (.aload_n 0, 1) := by decide +kernel
theorem dX6_serveAll_24 : decode cX6_serveAll 24 = .ok (.iload_n 2, 1) := by decide +kernel
theorem dX6_serveAll_25 : decode cX6_serveAll 25 = .ok (.iload_n 3, 1) := by decide +kernel
theorem dX6_serveAll_26 : decode cX6_serveAll 26 = .ok (.invokevirtual 56, 3) := by decide +kernel
theorem dX6_serveAll_29 : decode cX6_serveAll 29 = .ok (.istore_n 3, 1) := by decide +kernel
theorem dX6_serveAll_30 : decode cX6_serveAll 30 = .ok (.aload_n 0, 1) := by decide +kernel
theorem dX6_serveAll_31 : decode cX6_serveAll 31 = .ok (.iload_n 1, 1) := by decide +kernel
theorem dX6_serveAll_32 : decode cX6_serveAll 32 = .ok (.iload_n 2, 1) := by decide +kernel
theorem dX6_serveAll_33 : decode cX6_serveAll 33 = .ok (.iload_n 3, 1) := by decide +kernel
theorem dX6_serveAll_34 : decode cX6_serveAll 34 = .ok (.invokevirtual 59, 3) := by decide +kernel
theorem dX6_serveAll_37 : decode cX6_serveAll 37 = .ok (.istore 5, 2) := by decide +kernel
theorem dX6_serveAll_39 : decode cX6_serveAll 39 = .ok (.iload 5, 2) := by decide +kernel
theorem dX6_serveAll_41 : decode cX6_serveAll 41 = .ok (.ifCond .lt 10, 3) := by decide +kernel
theorem dX6_serveAll_44 : decode cX6_serveAll 44 = .ok (.iload 5, 2) := by decide +kernel
theorem dX6_serveAll_46 : decode cX6_serveAll 46 = .ok (.bipush 8, 2) := by decide +kernel
theorem dX6_serveAll_48 : decode cX6_serveAll 48 = .ok (.if_icmp .lt 4, 3) := by decide +kernel
theorem dX6_serveAll_51 : decode cX6_serveAll 51 = .ok (.return_, 1) := by decide +kernel
theorem dX6_serveAll_52 : decode cX6_serveAll 52 = .ok (.aload_n 0, 1) := by decide +kernel
theorem dX6_serveAll_53 : decode cX6_serveAll 53 = .ok (.getfield 18, 3) := by decide +kernel
theorem dX6_serveAll_56 : decode cX6_serveAll 56 = .ok (.iload 4, 2) := by decide +kernel
theorem dX6_serveAll_58 : decode cX6_serveAll 58 = .ok (.iload 5, 2) := by decide +kernel
theorem dX6_serveAll_60 : decode cX6_serveAll 60 = .ok (.iastore, 1) := by decide +kernel
theorem dX6_serveAll_61 : decode cX6_serveAll 61 = .ok (.aload_n 0, 1) := by decide +kernel
theorem dX6_serveAll_62 : decode cX6_serveAll 62 = .ok (.getfield 21, 3) := by decide +kernel
theorem dX6_serveAll_65 : decode cX6_serveAll 65 = .ok (.iload 5, 2) := by decide +kernel
theorem dX6_serveAll_67 : decode cX6_serveAll 67 = .ok (.iload_n 3, 1) := by decide +kernel
theorem dX6_serveAll_68 : decode cX6_serveAll 68 = .ok (.aload_n 0, 1) := by decide +kernel
theorem dX6_serveAll_69 : decode cX6_serveAll 69 = .ok (.getfield 9, 3) := by decide +kernel
theorem dX6_serveAll_72 : decode cX6_serveAll 72 = .ok (.iload 5, 2) := by decide +kernel
theorem dX6_serveAll_74 : decode cX6_serveAll 74 = .ok (.iaload, 1) := by decide +kernel
theorem dX6_serveAll_75 : decode cX6_serveAll 75 = .ok (.isub, 1) := by decide +kernel
theorem dX6_serveAll_76 : decode cX6_serveAll 76 = .ok (.iastore, 1) := by decide +kernel
theorem dX6_serveAll_77 : decode cX6_serveAll 77 = .ok (.iload_n 3, 1) := by decide +kernel
theorem dX6_serveAll_78 : decode cX6_serveAll 78 = .ok (.aload_n 0, 1) := by decide +kernel
theorem dX6_serveAll_79 : decode cX6_serveAll 79 = .ok (.getfield 15, 3) := by decide +kernel
theorem dX6_serveAll_82 : decode cX6_serveAll 82 = .ok (.iload 5, 2) := by decide +kernel
theorem dX6_serveAll_84 : decode cX6_serveAll 84 = .ok (.iaload, 1) := by decide +kernel
theorem dX6_serveAll_85 : decode cX6_serveAll 85 = .ok (.iadd, 1) := by decide +kernel
theorem dX6_serveAll_86 : decode cX6_serveAll 86 = .ok (.istore_n 3, 1) := by decide +kernel
theorem dX6_serveAll_87 : decode cX6_serveAll 87 = .ok (.iload_n 2, 1) := by decide +kernel
theorem dX6_serveAll_88 : decode cX6_serveAll 88 = .ok (.iconst 1, 1) := by decide +kernel
theorem dX6_serveAll_89 : decode cX6_serveAll 89 = .ok (.iload 5, 2) := by decide +kernel
theorem dX6_serveAll_91 : decode cX6_serveAll 91 = .ok (.ishl, 1) := by decide +kernel
theorem dX6_serveAll_92 : decode cX6_serveAll 92 = .ok (.ior, 1) := by decide +kernel
theorem dX6_serveAll_93 : decode cX6_serveAll 93 = .ok (.istore_n 2, 1) := by decide +kernel
theorem dX6_serveAll_94 : decode cX6_serveAll 94 = .ok (.iinc 4 1, 3) := by decide +kernel
theorem dX6_serveAll_97 : decode cX6_serveAll 97 = .ok (.goto (-90), 3) := by decide +kernel
theorem dX6_serveAll_100 : decode cX6_serveAll 100 = .ok (.return_, 1) := by decide +kernel
theorem dX6_whenServed_0 : decode cX6_whenServed 0 = .ok (.iconst 0, 1) := by decide +kernel
theorem dX6_whenServed_1 : decode cX6_whenServed 1 = .ok (.istore_n 3, 1) := by decide +kernel
theorem dX6_whenServed_2 : decode cX6_whenServed 2 = .ok (.iload_n 3, 1) := by decide +kernel
theorem dX6_whenServed_3 : decode cX6_whenServed 3 = .ok (.aload_n 0, 1) := by decide +kernel
theorem dX6_whenServed_4 : decode cX6_whenServed 4 = .ok (.getfield 38, 3) := by decide +kernel
theorem dX6_whenServed_7 : decode cX6_whenServed 7 = .ok (.if_icmp .ge 34, 3) := by decide +kernel
theorem dX6_whenServed_10 : decode cX6_whenServed 10 = .ok (.iload_n 3, 1) := by decide +kernel
theorem dX6_whenServed_11 : decode cX6_whenServed 11 = .ok (.bipush 8, 2) := by decide +kernel
theorem dX6_whenServed_13 : decode cX6_whenServed 13 = .ok (.if_icmp .ge 28, 3) := by decide +kernel
theorem dX6_whenServed_16 : decode cX6_whenServed 16 = .ok (.iload_n 1, 1) := by decide +kernel
theorem dX6_whenServed_17 : decode cX6_whenServed 17 = .ok (.iload_n 3, 1) := by decide +kernel
theorem dX6_whenServed_18 : decode cX6_whenServed 18 = .ok (.ishr, 1) := by decide +kernel
theorem dX6_whenServed_19 : decode cX6_whenServed 19 = .ok (.iconst 1, 1) := by decide +kernel
theorem dX6_whenServed_20 : decode cX6_whenServed 20 = .ok (.iand, 1) := by decide +kernel
theorem dX6_whenServed_21 : decode cX6_whenServed 21 = .ok (.ifCond .ne 14, 3) := by decide +kernel
theorem dX6_whenServed_24 : decode cX6_whenServed 24 = .ok (.iload_n 2, 1) := by decide +kernel
theorem dX6_whenServed_25 : decode cX6_whenServed 25 = .ok (.aload_n 0, 1) := by decide +kernel
theorem dX6_whenServed_26 : decode cX6_whenServed 26 = .ok (.getfield 9, 3) := by decide +kernel
theorem dX6_whenServed_29 : decode cX6_whenServed 29 = .ok (.iload_n 3, 1) := by decide +kernel
theorem dX6_whenServed_30 : decode cX6_whenServed 30 = .ok (.iaload, 1) := by decide +kernel
theorem dX6_whenServed_31 : decode cX6_whenServed 31 = .ok (.invokestatic 42, 3) := by decide +kernel
theorem dX6_whenServed_34 : decode cX6_whenServed 34 = .ok (.ireturn, 1) := by decide +kernel
theorem dX6_whenServed_35 : decode cX6_whenServed 35 = .ok (.iinc 3 1, 3) := by decide +kernel
theorem dX6_whenServed_38 : decode cX6_whenServed 38 = .ok (.goto (-36), 3) := by decide +kernel
theorem dX6_whenServed_41 : decode cX6_whenServed 41 = .ok (.iload_n 2, 1) := by decide +kernel
theorem dX6_whenServed_42 : decode cX6_whenServed 42 = .ok (.ireturn, 1) := by decide +kernel
theorem dX6_stands_0 : decode cX6_stands 0 = .ok (.iload_n 2, 1) := by decide +kernel
theorem dX6_stands_1 : decode cX6_stands 1 = .ok (.iload_n 1, 1) := by decide +kernel
theorem dX6_stands_2 : decode cX6_stands 2 = .ok (.ishr, 1) := by decide +kernel
theorem dX6_stands_3 : decode cX6_stands 3 = .ok (.iconst 1, 1) := by decide +kernel
theorem dX6_stands_4 : decode cX6_stands 4 = .ok (.iand, 1) := by decide +kernel
theorem dX6_stands_5 : decode cX6_stands 5 = .ok (.ifCond .ne 17, 3) := by decide +kernel
theorem dX6_stands_8 : decode cX6_stands 8 = .ok (.aload_n 0, 1) := by decide +kernel
theorem dX6_stands_9 : decode cX6_stands 9 = .ok (.getfield 9, 3) := by decide +kernel
theorem dX6_stands_12 : decode cX6_stands 12 = .ok (.iload_n 1, 1) := by decide +kernel
theorem dX6_stands_13 : decode cX6_stands 13 = .ok (.iaload, 1) := by decide +kernel
theorem dX6_stands_14 : decode cX6_stands 14 = .ok (.iload_n 3, 1) := by decide +kernel
theorem dX6_stands_15 : decode cX6_stands 15 = .ok (.if_icmp .gt 7, 3) := by decide +kernel
theorem dX6_stands_18 : decode cX6_stands 18 = .ok (.iconst 1, 1) := by decide +kernel
theorem dX6_stands_19 : decode cX6_stands 19 = .ok (.goto 4, 3) := by decide +kernel
theorem dX6_stands_22 : decode cX6_stands 22 = .ok (.iconst 0, 1) := by decide +kernel
theorem dX6_stands_23 : decode cX6_stands 23 = .ok (.ireturn, 1) := by decide +kernel
theorem dX6_whoIsNext_0 : decode cX6_whoIsNext 0 = .ok (.iconst 0, 1) := by decide +kernel
theorem dX6_whoIsNext_1 : decode cX6_whoIsNext 1 = .ok (.istore 4, 2) := by decide +kernel
theorem dX6_whoIsNext_3 : decode cX6_whoIsNext 3 = .ok (.aload_n 0, 1) := by decide +kernel
theorem dX6_whoIsNext_4 : decode cX6_whoIsNext 4 = .ok (.getfield 34, 3) := by decide +kernel
theorem dX6_whoIsNext_7 : decode cX6_whoIsNext 7 = .ok (.iload_n 3, 1) := by decide +kernel
theorem dX6_whoIsNext_8 : decode cX6_whoIsNext 8 = .ok (.sipush 200, 3) := by decide +kernel
theorem dX6_whoIsNext_11 : decode cX6_whoIsNext 11 = .ok (.invokevirtual 63, 3) := by decide +kernel
theorem dX6_whoIsNext_14 : decode cX6_whoIsNext 14 = .ok (.iconst 0, 1) := by decide +kernel
theorem dX6_whoIsNext_15 : decode cX6_whoIsNext 15 = .ok (.istore 5, 2) := by decide +kernel
theorem dX6_whoIsNext_17 : decode cX6_whoIsNext 17 = .ok (.iload 5, 2) := by decide +kernel
theorem dX6_whoIsNext_19 : decode cX6_whoIsNext 19 = .ok (.aload_n 0, 1) := by decide +kernel
theorem dX6_whoIsNext_20 : decode cX6_whoIsNext 20 = .ok (.getfield 38, 3) := by decide +kernel
theorem dX6_whoIsNext_23 : decode cX6_whoIsNext 23 = .ok (.if_icmp .ge 69, 3) := by decide +kernel
theorem dX6_whoIsNext_26 : decode cX6_whoIsNext 26 = .ok (.iload 5, 2) := by decide +kernel
theorem dX6_whoIsNext_28 : decode cX6_whoIsNext 28 = .ok (.bipush 8, 2) := by decide +kernel
theorem dX6_whoIsNext_30 : decode cX6_whoIsNext 30 = .ok (.if_icmp .ge 62, 3) := by decide +kernel
theorem dX6_whoIsNext_33 : decode cX6_whoIsNext 33 = .ok (.aload_n 0, 1) := by decide +kernel
theorem dX6_whoIsNext_34 : decode cX6_whoIsNext 34 = .ok (.iload 5, 2) := by decide +kernel
theorem dX6_whoIsNext_36 : decode cX6_whoIsNext 36 = .ok (.iload_n 2, 1) := by decide +kernel
theorem dX6_whoIsNext_37 : decode cX6_whoIsNext 37 = .ok (.iload_n 3, 1) := by decide +kernel
theorem dX6_whoIsNext_38 : decode cX6_whoIsNext 38 = .ok (.invokevirtual 69, 3) := by decide +kernel
theorem dX6_whoIsNext_41 : decode cX6_whoIsNext 41 = .ok (.ifCond .eq 45, 3) := by decide +kernel
theorem dX6_whoIsNext_44 : decode cX6_whoIsNext 44 = .ok (.aload_n 0, 1) := by decide +kernel
theorem dX6_whoIsNext_45 : decode cX6_whoIsNext 45 = .ok (.getfield 34, 3) := by decide +kernel
theorem dX6_whoIsNext_48 : decode cX6_whoIsNext 48 = .ok (.aload_n 0, 1) := by decide +kernel
theorem dX6_whoIsNext_49 : decode cX6_whoIsNext 49 = .ok (.getfield 9, 3) := by decide +kernel
theorem dX6_whoIsNext_52 : decode cX6_whoIsNext 52 = .ok (.iload 5, 2) := by decide +kernel
theorem dX6_whoIsNext_54 : decode cX6_whoIsNext 54 = .ok (.iaload, 1) := by decide +kernel
theorem dX6_whoIsNext_55 : decode cX6_whoIsNext 55 = .ok (.aload_n 0, 1) := by decide +kernel
theorem dX6_whoIsNext_56 : decode cX6_whoIsNext 56 = .ok (.getfield 9, 3) := by decide +kernel
theorem dX6_whoIsNext_59 : decode cX6_whoIsNext 59 = .ok (.iload 5, 2) := by decide +kernel
theorem dX6_whoIsNext_61 : decode cX6_whoIsNext 61 = .ok (.iaload, 1) := by decide +kernel
theorem dX6_whoIsNext_62 : decode cX6_whoIsNext 62 = .ok (.aload_n 0, 1) := by decide +kernel
theorem dX6_whoIsNext_63 : decode cX6_whoIsNext 63 = .ok (.getfield 15, 3) := by decide +kernel
theorem dX6_whoIsNext_66 : decode cX6_whoIsNext 66 = .ok (.iload 5, 2) := by decide +kernel
theorem dX6_whoIsNext_68 : decode cX6_whoIsNext 68 = .ok (.iaload, 1) := by decide +kernel
theorem dX6_whoIsNext_69 : decode cX6_whoIsNext 69 = .ok (.iconst 0, 1) := by decide +kernel
theorem dX6_whoIsNext_70 : decode cX6_whoIsNext 70 = .ok (.iconst 0, 1) := by decide +kernel
theorem dX6_whoIsNext_71 : decode cX6_whoIsNext 71 = .ok (.invokevirtual 73, 3) := by decide +kernel
theorem dX6_whoIsNext_74 : decode cX6_whoIsNext 74 = .ok (.aload_n 0, 1) := by decide +kernel
theorem dX6_whoIsNext_75 : decode cX6_whoIsNext 75 = .ok (.getfield 24, 3) := by decide +kernel
theorem dX6_whoIsNext_78 : decode cX6_whoIsNext 78 = .ok (.iload 4, 2) := by decide +kernel
theorem dX6_whoIsNext_80 : decode cX6_whoIsNext 80 = .ok (.iload 5, 2) := by decide +kernel
theorem dX6_whoIsNext_82 : decode cX6_whoIsNext 82 = .ok (.iastore, 1) := by decide +kernel
theorem dX6_whoIsNext_83 : decode cX6_whoIsNext 83 = .ok (.iinc 4 1, 3) := by decide +kernel
theorem dX6_whoIsNext_86 : decode cX6_whoIsNext 86 = .ok (.iinc 5 1, 3) := by decide +kernel
theorem dX6_whoIsNext_89 : decode cX6_whoIsNext 89 = .ok (.goto (-72), 3) := by decide +kernel
theorem dX6_whoIsNext_92 : decode cX6_whoIsNext 92 = .ok (.aload_n 0, 1) := by decide +kernel
theorem dX6_whoIsNext_93 : decode cX6_whoIsNext 93 = .ok (.getfield 30, 3) := by decide +kernel
theorem dX6_whoIsNext_96 : decode cX6_whoIsNext 96 = .ok (.iload_n 1, 1) := by decide +kernel
theorem dX6_whoIsNext_97 : decode cX6_whoIsNext 97 = .ok (.invokevirtual 77, 3) := by decide +kernel
theorem dX6_whoIsNext_100 : decode cX6_whoIsNext 100 = .ok (.ifCond .eq 18, 3) := by decide +kernel
theorem dX6_whoIsNext_103 : decode cX6_whoIsNext 103 = .ok (.aload_n 0, 1) := by decide +kernel
theorem dX6_whoIsNext_104 : decode cX6_whoIsNext 104 = .ok (.getfield 30, 3) := by decide +kernel
theorem dX6_whoIsNext_107 : decode cX6_whoIsNext 107 = .ok (.iload_n 1, 1) := by decide +kernel
theorem dX6_whoIsNext_108 : decode cX6_whoIsNext 108 = .ok (.aload_n 0, 1) := by decide +kernel
theorem dX6_whoIsNext_109 : decode cX6_whoIsNext 109 = .ok (.getfield 34, 3) := by decide +kernel
theorem dX6_whoIsNext_112 : decode cX6_whoIsNext 112 = .ok (.invokevirtual 83, 3) := by decide +kernel
theorem dX6_whoIsNext_115 : decode cX6_whoIsNext 115 = .ok (.goto 9, 3) := by decide +kernel
theorem dX6_whoIsNext_118 : decode cX6_whoIsNext 118 = .ok (.iload_n 1, 1) := by decide +kernel
theorem dX6_whoIsNext_119 : decode cX6_whoIsNext 119 = .ok (.iload 4, 2) := by decide +kernel
theorem dX6_whoIsNext_121 : decode cX6_whoIsNext 121 = .ok (.invokestatic 87, 3) := by decide +kernel
theorem dX6_whoIsNext_124 : decode cX6_whoIsNext 124 = .ok (.istore 5, 2) := by decide +kernel
theorem dX6_whoIsNext_126 : decode cX6_whoIsNext 126 = .ok (.iload 5, 2) := by decide +kernel
theorem dX6_whoIsNext_128 : decode cX6_whoIsNext 128 = .ok (.ifCond .lt 20, 3) := by decide +kernel
theorem dX6_whoIsNext_131 : decode cX6_whoIsNext 131 = .ok (.iload 5, 2) := by decide +kernel
theorem dX6_whoIsNext_133 : decode cX6_whoIsNext 133 = .ok (.iload 4, 2) := by decide +kernel
theorem dX6_whoIsNext_135 : decode cX6_whoIsNext 135 = .ok (.if_icmp .ge 13, 3) := by decide +kernel
theorem dX6_whoIsNext_138 : decode cX6_whoIsNext 138 = .ok (.aload_n 0, 1) := by decide +kernel
theorem dX6_whoIsNext_139 : decode cX6_whoIsNext 139 = .ok (.getfield 24, 3) := by decide +kernel
theorem dX6_whoIsNext_142 : decode cX6_whoIsNext 142 = .ok (.iload 5, 2) := by decide +kernel
theorem dX6_whoIsNext_144 : decode cX6_whoIsNext 144 = .ok (.iaload, 1) := by decide +kernel
theorem dX6_whoIsNext_145 : decode cX6_whoIsNext 145 = .ok (.goto 4, 3) := by decide +kernel
theorem dX6_whoIsNext_148 : decode cX6_whoIsNext 148 = .ok (.iconst (-1), 1) := by decide +kernel
theorem dX6_whoIsNext_149 : decode cX6_whoIsNext 149 = .ok (.ireturn, 1) := by decide +kernel
theorem dX6_meanByLot_0 : decode cX6_meanByLot 0 = .ok (.iconst 1, 1) := by decide +kernel
theorem dX6_meanByLot_1 : decode cX6_meanByLot 1 = .ok (.aload_n 0, 1) := by decide +kernel
theorem dX6_meanByLot_2 : decode cX6_meanByLot 2 = .ok (.getfield 38, 3) := by decide +kernel
theorem dX6_meanByLot_5 : decode cX6_meanByLot 5 = .ok (.bipush 8, 2) := by decide +kernel
theorem dX6_meanByLot_7 : decode cX6_meanByLot 7 = .ok (.invokestatic 90, 3) := by decide +kernel
theorem dX6_meanByLot_10 : decode cX6_meanByLot 10 = .ok (.ishl, 1) := by decide +kernel
theorem dX6_meanByLot_11 : decode cX6_meanByLot 11 = .ok (.iconst 1, 1) := by decide +kernel
theorem dX6_meanByLot_12 : decode cX6_meanByLot 12 = .ok (.isub, 1) := by decide +kernel
theorem dX6_meanByLot_13 : decode cX6_meanByLot 13 = .ok (.istore_n 1, 1) := by decide +kernel
theorem dX6_meanByLot_14 : decode cX6_meanByLot 14 = .ok (.aload_n 0, 1) := by decide +kernel
theorem dX6_meanByLot_15 : decode cX6_meanByLot 15 = .ok (.getfield 27, 3) := by decide +kernel
theorem dX6_meanByLot_18 : decode cX6_meanByLot 18 = .ok (.iload_n 1, 1) := by decide +kernel
theorem dX6_meanByLot_19 : decode cX6_meanByLot 19 = .ok (.iconst 0, 1) := by decide +kernel
theorem dX6_meanByLot_20 : decode cX6_meanByLot 20 = .ok (.iastore, 1) := by decide +kernel
theorem dX6_meanByLot_21 : decode cX6_meanByLot 21 = .ok (.iload_n 1, 1) := by decide +kernel
theorem dX6_meanByLot_22 : decode cX6_meanByLot 22 = .ok (.iconst 1, 1) := by decide +kernel
theorem dX6_meanByLot_23 : decode cX6_meanByLot 23 = .ok (.isub, 1) := by decide +kernel
theorem dX6_meanByLot_24 : decode cX6_meanByLot 24 = .ok (.istore_n 2, 1) := by decide +kernel
theorem dX6_meanByLot_25 : decode cX6_meanByLot 25 = .ok (.iload_n 2, 1) := by decide +kernel
theorem dX6_meanByLot_26 : decode cX6_meanByLot 26 = .ok (.ifCond .lt 20, 3) := by decide +kernel
theorem dX6_meanByLot_29 : decode cX6_meanByLot 29 = .ok (.aload_n 0, 1) := by decide +kernel
theorem dX6_meanByLot_30 : decode cX6_meanByLot 30 = .ok (.getfield 27, 3) := by decide +kernel
theorem dX6_meanByLot_33 : decode cX6_meanByLot 33 = .ok (.iload_n 2, 1) := by decide +kernel
theorem dX6_meanByLot_34 : decode cX6_meanByLot 34 = .ok (.aload_n 0, 1) := by decide +kernel
theorem dX6_meanByLot_35 : decode cX6_meanByLot 35 = .ok (.iload_n 2, 1) := by decide +kernel
theorem dX6_meanByLot_36 : decode cX6_meanByLot 36 = .ok (.invokevirtual 93, 3) := by decide +kernel
theorem dX6_meanByLot_39 : decode cX6_meanByLot 39 = .ok (.iastore, 1) := by decide +kernel
theorem dX6_meanByLot_40 : decode cX6_meanByLot 40 = .ok (.iinc 2 (-1), 3) := by decide +kernel
theorem dX6_meanByLot_43 : decode cX6_meanByLot 43 = .ok (.goto (-18), 3) := by decide +kernel
theorem dX6_meanByLot_46 : decode cX6_meanByLot 46 = .ok (.aload_n 0, 1) := by decide +kernel
theorem dX6_meanByLot_47 : decode cX6_meanByLot 47 = .ok (.getfield 27, 3) := by decide +kernel
theorem dX6_meanByLot_50 : decode cX6_meanByLot 50 = .ok (.iconst 0, 1) := by decide +kernel
theorem dX6_meanByLot_51 : decode cX6_meanByLot 51 = .ok (.iaload, 1) := by decide +kernel
theorem dX6_meanByLot_52 : decode cX6_meanByLot 52 = .ok (.ireturn, 1) := by decide +kernel
theorem dX6_meanBehind_0 : decode cX6_meanBehind 0 = .ok (.aload_n 0, 1) := by decide +kernel
theorem dX6_meanBehind_1 : decode cX6_meanBehind 1 = .ok (.iload_n 1, 1) := by decide +kernel
theorem dX6_meanBehind_2 : decode cX6_meanBehind 2 = .ok (.aload_n 0, 1) := by decide +kernel
theorem dX6_meanBehind_3 : decode cX6_meanBehind 3 = .ok (.iload_n 1, 1) := by decide +kernel
theorem dX6_meanBehind_4 : decode cX6_meanBehind 4 = .ok (.invokevirtual 97, 3) := by decide +kernel
theorem dX6_meanBehind_7 : decode cX6_meanBehind 7 = .ok (.invokevirtual 56, 3) := by decide +kernel
theorem dX6_meanBehind_10 : decode cX6_meanBehind 10 = .ok (.istore_n 2, 1) := by decide +kernel
theorem dX6_meanBehind_11 : decode cX6_meanBehind 11 = .ok (.iconst 0, 1) := by decide +kernel
theorem dX6_meanBehind_12 : decode cX6_meanBehind 12 = .ok (.istore_n 3, 1) := by decide +kernel
theorem dX6_meanBehind_13 : decode cX6_meanBehind 13 = .ok (.iconst 0, 1) := by decide +kernel
theorem dX6_meanBehind_14 : decode cX6_meanBehind 14 = .ok (.istore 4, 2) := by decide +kernel
theorem dX6_meanBehind_16 : decode cX6_meanBehind 16 = .ok (.iconst 0, 1) := by decide +kernel
theorem dX6_meanBehind_17 : decode cX6_meanBehind 17 = .ok (.istore 5, 2) := by decide +kernel
theorem dX6_meanBehind_19 : decode cX6_meanBehind 19 = .ok (.iload 5, 2) := by decide +kernel
theorem dX6_meanBehind_21 : decode cX6_meanBehind 21 = .ok (.aload_n 0, 1) := by decide +kernel
theorem dX6_meanBehind_22 : decode cX6_meanBehind 22 = .ok (.getfield 38, 3) := by decide +kernel
theorem dX6_meanBehind_25 : decode cX6_meanBehind 25 = .ok (.if_icmp .ge 58, 3) := by decide +kernel
theorem dX6_meanBehind_28 : decode cX6_meanBehind 28 = .ok (.iload 5, 2) := by decide +kernel
theorem dX6_meanBehind_30 : decode cX6_meanBehind 30 = .ok (.bipush 8, 2) := by decide +kernel
theorem dX6_meanBehind_32 : decode cX6_meanBehind 32 = .ok (.if_icmp .ge 51, 3) := by decide +kernel
theorem dX6_meanBehind_35 : decode cX6_meanBehind 35 = .ok (.aload_n 0, 1) := by decide +kernel
theorem dX6_meanBehind_36 : decode cX6_meanBehind 36 = .ok (.iload 5, 2) := by decide +kernel
theorem dX6_meanBehind_38 : decode cX6_meanBehind 38 = .ok (.iload_n 1, 1) := by decide +kernel
theorem dX6_meanBehind_39 : decode cX6_meanBehind 39 = .ok (.iload_n 2, 1) := by decide +kernel
theorem dX6_meanBehind_40 : decode cX6_meanBehind 40 = .ok (.invokevirtual 69, 3) := by decide +kernel
theorem dX6_meanBehind_43 : decode cX6_meanBehind 43 = .ok (.ifCond .eq 34, 3) := by decide +kernel
theorem dX6_meanBehind_46 : decode cX6_meanBehind 46 = .ok (.iload_n 3, 1) := by decide +kernel
theorem dX6_meanBehind_47 : decode cX6_meanBehind 47 = .ok (.sipush 1000, 3) := by decide +kernel
theorem dX6_meanBehind_50 : decode cX6_meanBehind 50 = .ok (.iload_n 2, 1) := by decide +kernel
theorem dX6_meanBehind_51 : decode cX6_meanBehind 51 = .ok (.aload_n 0, 1) := by decide +kernel
theorem dX6_meanBehind_52 : decode cX6_meanBehind 52 = .ok (.getfield 9, 3) := by decide +kernel
theorem dX6_meanBehind_55 : decode cX6_meanBehind 55 = .ok (.iload 5, 2) := by decide +kernel
theorem dX6_meanBehind_57 : decode cX6_meanBehind 57 = .ok (.iaload, 1) := by decide +kernel
theorem dX6_meanBehind_58 : decode cX6_meanBehind 58 = .ok (.isub, 1) := by decide +kernel
theorem dX6_meanBehind_59 : decode cX6_meanBehind 59 = .ok (.imul, 1) := by decide +kernel
theorem dX6_meanBehind_60 : decode cX6_meanBehind 60 = .ok (.aload_n 0, 1) := by decide +kernel
theorem dX6_meanBehind_61 : decode cX6_meanBehind 61 = .ok (.getfield 27, 3) := by decide +kernel
theorem dX6_meanBehind_64 : decode cX6_meanBehind 64 = .ok (.iload_n 1, 1) := by decide +kernel
theorem dX6_meanBehind_65 : decode cX6_meanBehind 65 = .ok (.iconst 1, 1) := by decide +kernel
theorem dX6_meanBehind_66 : decode cX6_meanBehind 66 = .ok (.iload 5, 2) := by decide +kernel
theorem dX6_meanBehind_68 : decode cX6_meanBehind 68 = .ok (.ishl, 1) := by decide +kernel
theorem dX6_meanBehind_69 : decode cX6_meanBehind 69 = .ok (.ior, 1) := by decide +kernel
theorem dX6_meanBehind_70 : decode cX6_meanBehind 70 = .ok (.iaload, 1) := by decide +kernel
theorem dX6_meanBehind_71 : decode cX6_meanBehind 71 = .ok (.iadd, 1) := by decide +kernel
theorem dX6_meanBehind_72 : decode cX6_meanBehind 72 = .ok (.iadd, 1) := by decide +kernel
theorem dX6_meanBehind_73 : decode cX6_meanBehind 73 = .ok (.istore_n 3, 1) := by decide +kernel
theorem dX6_meanBehind_74 : decode cX6_meanBehind 74 = .ok (.iinc 4 1, 3) := by decide +kernel
theorem dX6_meanBehind_77 : decode cX6_meanBehind 77 = .ok (.iinc 5 1, 3) := by decide +kernel
theorem dX6_meanBehind_80 : decode cX6_meanBehind 80 = .ok (.goto (-61), 3) := by decide +kernel
theorem dX6_meanBehind_83 : decode cX6_meanBehind 83 = .ok (.iload 4, 2) := by decide +kernel
theorem dX6_meanBehind_85 : decode cX6_meanBehind 85 = .ok (.ifCond .ne 7, 3) := by decide +kernel
theorem dX6_meanBehind_88 : decode cX6_meanBehind 88 = .ok (.iconst 0, 1) := by decide +kernel
theorem dX6_meanBehind_89 : decode cX6_meanBehind 89 = .ok (.goto 7, 3) := by decide +kernel
theorem dX6_meanBehind_92 : decode cX6_meanBehind 92 = .ok (.iload_n 3, 1) := by decide +kernel
theorem dX6_meanBehind_93 : decode cX6_meanBehind 93 = .ok (.iload 4, 2) := by decide +kernel
theorem dX6_meanBehind_95 : decode cX6_meanBehind 95 = .ok (.idiv, 1) := by decide +kernel
theorem dX6_meanBehind_96 : decode cX6_meanBehind 96 = .ok (.ireturn, 1) := by decide +kernel
theorem dX6_freeAfter_0 : decode cX6_freeAfter 0 = .ok (.iconst 0, 1) := by decide +kernel
theorem dX6_freeAfter_1 : decode cX6_freeAfter 1 = .ok (.istore_n 2, 1) := by decide +kernel
theorem dX6_freeAfter_2 : decode cX6_freeAfter 2 = .ok (.iconst 0, 1) := by decide +kernel
theorem dX6_freeAfter_3 : decode cX6_freeAfter 3 = .ok (.istore_n 3, 1) := by decide +kernel
theorem dX6_freeAfter_4 : decode cX6_freeAfter 4 = .ok (.iload_n 3, 1) := by decide +kernel
theorem dX6_freeAfter_5 : decode cX6_freeAfter 5 = .ok (.aload_n 0, 1) := by decide +kernel
theorem dX6_freeAfter_6 : decode cX6_freeAfter 6 = .ok (.getfield 38, 3) := by decide +kernel
theorem dX6_freeAfter_9 : decode cX6_freeAfter 9 = .ok (.if_icmp .ge 42, 3) := by decide +kernel
theorem dX6_freeAfter_12 : decode cX6_freeAfter 12 = .ok (.iload_n 3, 1) := by decide +kernel
theorem dX6_freeAfter_13 : decode cX6_freeAfter 13 = .ok (.bipush 8, 2) := by decide +kernel
theorem dX6_freeAfter_15 : decode cX6_freeAfter 15 = .ok (.if_icmp .ge 36, 3) := by decide +kernel
theorem dX6_freeAfter_18 : decode cX6_freeAfter 18 = .ok (.iload_n 1, 1) := by decide +kernel
theorem dX6_freeAfter_19 : decode cX6_freeAfter 19 = .ok (.iload_n 3, 1) := by decide +kernel
theorem dX6_freeAfter_20 : decode cX6_freeAfter 20 = .ok (.ishr, 1) := by decide +kernel
theorem dX6_freeAfter_21 : decode cX6_freeAfter 21 = .ok (.iconst 1, 1) := by decide +kernel
theorem dX6_freeAfter_22 : decode cX6_freeAfter 22 = .ok (.iand, 1) := by decide +kernel
theorem dX6_freeAfter_23 : decode cX6_freeAfter 23 = .ok (.iconst 1, 1) := by decide +kernel
theorem dX6_freeAfter_24 : decode cX6_freeAfter 24 = .ok (.if_icmp .ne 21, 3) := by decide +kernel
theorem dX6_freeAfter_27 : decode cX6_freeAfter 27 = .ok (.iload_n 2, 1) := by decide +kernel
theorem dX6_freeAfter_28 : decode cX6_freeAfter 28 = .ok (.aload_n 0, 1) := by decide +kernel
theorem dX6_freeAfter_29 : decode cX6_freeAfter 29 = .ok (.getfield 9, 3) := by decide +kernel
theorem dX6_freeAfter_32 : decode cX6_freeAfter 32 = .ok (.iload_n 3, 1) := by decide +kernel
theorem dX6_freeAfter_33 : decode cX6_freeAfter 33 = .ok (.iaload, 1) := by decide +kernel
theorem dX6_freeAfter_34 : decode cX6_freeAfter 34 = .ok (.invokestatic 42, 3) := by decide +kernel
theorem dX6_freeAfter_37 : decode cX6_freeAfter 37 = .ok (.aload_n 0, 1) := by decide +kernel
theorem dX6_freeAfter_38 : decode cX6_freeAfter 38 = .ok (.getfield 15, 3) := by decide +kernel
theorem dX6_freeAfter_41 : decode cX6_freeAfter 41 = .ok (.iload_n 3, 1) := by decide +kernel
theorem dX6_freeAfter_42 : decode cX6_freeAfter 42 = .ok (.iaload, 1) := by decide +kernel
theorem dX6_freeAfter_43 : decode cX6_freeAfter 43 = .ok (.iadd, 1) := by decide +kernel
theorem dX6_freeAfter_44 : decode cX6_freeAfter 44 = .ok (.istore_n 2, 1) := by decide +kernel
theorem dX6_freeAfter_45 : decode cX6_freeAfter 45 = .ok (.iinc 3 1, 3) := by decide +kernel
theorem dX6_freeAfter_48 : decode cX6_freeAfter 48 = .ok (.goto (-44), 3) := by decide +kernel
theorem dX6_freeAfter_51 : decode cX6_freeAfter 51 = .ok (.iload_n 2, 1) := by decide +kernel
theorem dX6_freeAfter_52 : decode cX6_freeAfter 52 = .ok (.ireturn, 1) := by decide +kernel
theorem dX6_bestLaw_0 : decode cX6_bestLaw 0 = .ok (.iconst (-1), 1) := by decide +kernel
theorem dX6_bestLaw_1 : decode cX6_bestLaw 1 = .ok (.istore_n 1, 1) := by decide +kernel
theorem dX6_bestLaw_2 : decode cX6_bestLaw 2 = .ok (.iconst 0, 1) := by decide +kernel
theorem dX6_bestLaw_3 : decode cX6_bestLaw 3 = .ok (.istore_n 2, 1) := by decide +kernel
theorem dX6_bestLaw_4 : decode cX6_bestLaw 4 = .ok (.iconst 0, 1) := by decide +kernel
theorem dX6_bestLaw_5 : decode cX6_bestLaw 5 = .ok (.istore_n 3, 1) := by decide +kernel
theorem dX6_bestLaw_6 : decode cX6_bestLaw 6 = .ok (.iconst 0, 1) := by decide +kernel
theorem dX6_bestLaw_7 : decode cX6_bestLaw 7 = .ok (.istore 4, 2) := by decide +kernel
theorem dX6_bestLaw_9 : decode cX6_bestLaw 9 = .ok (.iload 4, 2) := by decide +kernel
theorem dX6_bestLaw_11 : decode cX6_bestLaw 11 = .ok (.bipush 8, 2) := by decide +kernel
theorem dX6_bestLaw_13 : decode cX6_bestLaw 13 = .ok (.if_icmp .gt 92, 3) := by decide +kernel
theorem dX6_bestLaw_16 : decode cX6_bestLaw 16 = .ok (.iload 4, 2) := by decide +kernel
theorem dX6_bestLaw_18 : decode cX6_bestLaw 18 = .ok (.iconst 2, 1) := by decide +kernel
theorem dX6_bestLaw_19 : decode cX6_bestLaw 19 = .ok (.if_icmp .le 18, 3) := by decide +kernel
theorem dX6_bestLaw_22 : decode cX6_bestLaw 22 = .ok (.aload_n 0, 1) := by decide +kernel
theorem dX6_bestLaw_23 : decode cX6_bestLaw 23 = .ok (.getfield 30, 3) := by decide +kernel
theorem dX6_bestLaw_26 : decode cX6_bestLaw 26 = .ok (.iload 4, 2) := by decide +kernel
theorem dX6_bestLaw_28 : decode cX6_bestLaw 28 = .ok (.invokevirtual 77, 3) := by decide +kernel
theorem dX6_bestLaw_31 : decode cX6_bestLaw 31 = .ok (.ifCond .ne 6, 3) := by decide +kernel
theorem dX6_bestLaw_34 : decode cX6_bestLaw 34 = .ok (.goto 65, 3) := by decide +kernel
theorem dX6_bestLaw_37 : decode cX6_bestLaw 37 = .ok (.aload_n 0, 1) := by decide +kernel
theorem dX6_bestLaw_38 : decode cX6_bestLaw 38 = .ok (.iload 4, 2) := by decide +kernel
theorem dX6_bestLaw_40 : decode cX6_bestLaw 40 = .ok (.invokevirtual 100, 3) := by decide +kernel
theorem dX6_bestLaw_43 : decode cX6_bestLaw 43 = .ok (.aload_n 0, 1) := by decide +kernel
theorem dX6_bestLaw_44 : decode cX6_bestLaw 44 = .ok (.invokevirtual 48, 3) := by decide +kernel
theorem dX6_bestLaw_47 : decode cX6_bestLaw 47 = .ok (.istore 5, 2) := by decide +kernel
theorem dX6_bestLaw_49 : decode cX6_bestLaw 49 = .ok (.aload_n 0, 1) := by decide +kernel
theorem dX6_bestLaw_50 : decode cX6_bestLaw 50 = .ok (.invokevirtual 104, 3) := by decide +kernel
theorem dX6_bestLaw_53 : decode cX6_bestLaw 53 = .ok (.istore 6, 2) := by decide +kernel
theorem dX6_bestLaw_55 : decode cX6_bestLaw 55 = .ok (.iload 5, 2) := by decide +kernel
theorem dX6_bestLaw_57 : decode cX6_bestLaw 57 = .ok (.iload_n 2, 1) := by decide +kernel
theorem dX6_bestLaw_58 : decode cX6_bestLaw 58 = .ok (.if_icmp .lt 15, 3) := by decide +kernel
theorem dX6_bestLaw_61 : decode cX6_bestLaw 61 = .ok (.iload 5, 2) := by decide +kernel
theorem dX6_bestLaw_63 : decode cX6_bestLaw 63 = .ok (.iload_n 2, 1) := by decide +kernel
theorem dX6_bestLaw_64 : decode cX6_bestLaw 64 = .ok (.if_icmp .ne 13, 3) := by decide +kernel
theorem dX6_bestLaw_67 : decode cX6_bestLaw 67 = .ok (.iload 6, 2) := by decide +kernel
theorem dX6_bestLaw_69 : decode cX6_bestLaw 69 = .ok (.iload_n 3, 1) := by decide +kernel
theorem dX6_bestLaw_70 : decode cX6_bestLaw 70 = .ok (.if_icmp .ge 7, 3) := by decide +kernel
theorem dX6_bestLaw_73 : decode cX6_bestLaw 73 = .ok (.iconst 1, 1) := by decide +kernel
theorem dX6_bestLaw_74 : decode cX6_bestLaw 74 = .ok (.goto 4, 3) := by decide +kernel
theorem dX6_bestLaw_77 : decode cX6_bestLaw 77 = .ok (.iconst 0, 1) := by decide +kernel
theorem dX6_bestLaw_78 : decode cX6_bestLaw 78 = .ok (.istore 7, 2) := by decide +kernel
theorem dX6_bestLaw_80 : decode cX6_bestLaw 80 = .ok (.iload_n 1, 1) := by decide +kernel
theorem dX6_bestLaw_81 : decode cX6_bestLaw 81 = .ok (.iconst (-1), 1) := by decide +kernel
theorem dX6_bestLaw_82 : decode cX6_bestLaw 82 = .ok (.if_icmp .eq 8, 3) := by decide +kernel
theorem dX6_bestLaw_85 : decode cX6_bestLaw 85 = .ok (.iload 7, 2) := by decide +kernel
theorem dX6_bestLaw_87 : decode cX6_bestLaw 87 = .ok (.ifCond .eq 12, 3) := by decide +kernel
theorem dX6_bestLaw_90 : decode cX6_bestLaw 90 = .ok (.iload 4, 2) := by decide +kernel
theorem dX6_bestLaw_92 : decode cX6_bestLaw 92 = .ok (.istore_n 1, 1) := by decide +kernel
theorem dX6_bestLaw_93 : decode cX6_bestLaw 93 = .ok (.iload 5, 2) := by decide +kernel
theorem dX6_bestLaw_95 : decode cX6_bestLaw 95 = .ok (.istore_n 2, 1) := by decide +kernel
theorem dX6_bestLaw_96 : decode cX6_bestLaw 96 = .ok (.iload 6, 2) := by decide +kernel
theorem dX6_bestLaw_98 : decode cX6_bestLaw 98 = .ok (.istore_n 3, 1) := by decide +kernel
theorem dX6_bestLaw_99 : decode cX6_bestLaw 99 = .ok (.iinc 4 1, 3) := by decide +kernel
theorem dX6_bestLaw_102 : decode cX6_bestLaw 102 = .ok (.goto (-93), 3) := by decide +kernel
theorem dX6_bestLaw_105 : decode cX6_bestLaw 105 = .ok (.iload_n 1, 1) := by decide +kernel
theorem dX6_bestLaw_106 : decode cX6_bestLaw 106 = .ok (.ireturn, 1) := by decide +kernel
theorem dX7_init_0 : decode cX7_init 0 = .ok (.aload_n 0, 1) := by decide +kernel
theorem dX7_init_1 : decode cX7_init 1 = .ok (.invokespecial 3, 3) := by decide +kernel
theorem dX7_init_4 : decode cX7_init 4 = .ok (.aload_n 0, 1) := by decide +kernel
theorem dX7_init_5 : decode cX7_init 5 = .ok (.bipush 30, 2) := by decide +kernel
theorem dX7_init_7 : decode cX7_init 7 = .ok (.anewarray 9, 3) := by decide +kernel
theorem dX7_init_10 : decode cX7_init 10 = .ok (.putfield 11, 3) := by decide +kernel
theorem dX7_init_13 : decode cX7_init 13 = .ok (.aload_n 0, 1) := by decide +kernel
theorem dX7_init_14 : decode cX7_init 14 = .ok (.iconst 3, 1) := by decide +kernel
theorem dX7_init_15 : decode cX7_init 15 = .ok (.anewarray 17, 3) := by decide +kernel
theorem dX7_init_18 : decode cX7_init 18 = .ok (.putfield 19, 3) := by decide +kernel
theorem dX7_init_21 : decode cX7_init 21 = .ok (.aload_n 0, 1) := by decide +kernel
theorem dX7_init_22 : decode cX7_init 22 = .ok (.bipush 35, 2) := by decide +kernel
theorem dX7_init_24 : decode cX7_init 24 = .ok (.newarray .int, 2) := by decide +kernel
theorem dX7_init_26 : decode cX7_init 26 = .ok (.putfield 23, 3) := by decide +kernel
theorem dX7_init_29 : decode cX7_init 29 = .ok (.aload_n 0, 1) := by decide +kernel
theorem dX7_init_30 : decode cX7_init 30 = .ok (.new 27, 3) := by decide +kernel
theorem dX7_init_33 : decode cX7_init 33 = .ok (.dup, 1) := by decide +kernel
theorem dX7_init_34 : decode cX7_init 34 = .ok (.invokespecial 29, 3) := by decide +kernel
theorem dX7_init_37 : decode cX7_init 37 = .ok (.putfield 30, 3) := by decide +kernel
theorem dX7_init_40 : decode cX7_init 40 = .ok (.aload_n 0, 1) := by decide +kernel
theorem dX7_init_41 : decode cX7_init 41 = .ok (.aload_n 1, 1) := by decide +kernel
theorem dX7_init_42 : decode cX7_init 42 = .ok (.putfield 34, 3) := by decide +kernel
theorem dX7_init_45 : decode cX7_init 45 = .ok (.aload_n 0, 1) := by decide +kernel
theorem dX7_init_46 : decode cX7_init 46 = .ok (.aload_n 2, 1) := by decide +kernel
theorem dX7_init_47 : decode cX7_init 47 = .ok (.putfield 38, 3) := by decide +kernel
theorem dX7_init_50 : decode cX7_init 50 = .ok (.aload_n 0, 1) := by decide +kernel
theorem dX7_init_51 : decode cX7_init 51 = .ok (.aload_n 3, 1) := by decide +kernel
theorem dX7_init_52 : decode cX7_init 52 = .ok (.putfield 42, 3) := by decide +kernel
theorem dX7_init_55 : decode cX7_init 55 = .ok (.iconst 0, 1) := by decide +kernel
theorem dX7_init_56 : decode cX7_init 56 = .ok (.istore 4, 2) := by decide +kernel
theorem dX7_init_58 : decode cX7_init 58 = .ok (.iload 4, 2) := by decide +kernel
theorem dX7_init_60 : decode cX7_init 60 = .ok (.bipush 30, 2) := by decide +kernel
theorem dX7_init_62 : decode cX7_init 62 = .ok (.if_icmp .ge 23, 3) := by decide +kernel
theorem dX7_init_65 : decode cX7_init 65 = .ok (.aload_n 0, 1) := by decide +kernel
theorem dX7_init_66 : decode cX7_init 66 = .ok (.getfield 11, 3) := by decide +kernel
theorem dX7_init_69 : decode cX7_init 69 = .ok (.iload 4, 2) := by decide +kernel
theorem dX7_init_71 : decode cX7_init 71 = .ok (.new 9, 3) := by decide +kernel
theorem dX7_init_74 : decode cX7_init 74 = .ok (.dup, 1) := by decide +kernel
theorem dX7_init_75 : decode cX7_init 75 = .ok (.invokespecial 46, 3) := by decide +kernel
theorem dX7_init_78 : decode cX7_init 78 = .ok (.aastore, 1) := by decide +kernel
theorem dX7_init_79 : decode cX7_init 79 = .ok (.iinc 4 1, 3) := by decide +kernel
theorem dX7_init_82 : decode cX7_init 82 = .ok (.goto (-24), 3) := by decide +kernel
theorem dX7_init_85 : decode cX7_init 85 = .ok (.iconst 0, 1) := by decide +kernel
theorem dX7_init_86 : decode cX7_init 86 = .ok (.istore 4, 2) := by decide +kernel
theorem dX7_init_88 : decode cX7_init 88 = .ok (.iload 4, 2) := by decide +kernel
theorem dX7_init_90 : decode cX7_init 90 = .ok (.iconst 3, 1) := by decide +kernel
theorem dX7_init_91 : decode cX7_init 91 = .ok (.if_icmp .ge 23, 3) := by decide +kernel
theorem dX7_init_94 : decode cX7_init 94 = .ok (.aload_n 0, 1) := by decide +kernel
theorem dX7_init_95 : decode cX7_init 95 = .ok (.getfield 19, 3) := by decide +kernel
theorem dX7_init_98 : decode cX7_init 98 = .ok (.iload 4, 2) := by decide +kernel
theorem dX7_init_100 : decode cX7_init 100 = .ok (.new 17, 3) := by decide +kernel
theorem dX7_init_103 : decode cX7_init 103 = .ok (.dup, 1) := by decide +kernel
theorem dX7_init_104 : decode cX7_init 104 = .ok (.invokespecial 47, 3) := by decide +kernel
theorem dX7_init_107 : decode cX7_init 107 = .ok (.aastore, 1) := by decide +kernel
theorem dX7_init_108 : decode cX7_init 108 = .ok (.iinc 4 1, 3) := by decide +kernel
theorem dX7_init_111 : decode cX7_init 111 = .ok (.goto (-23), 3) := by decide +kernel
theorem dX7_init_114 : decode cX7_init 114 = .ok (.return_, 1) := by decide +kernel
theorem dX7_open_0 : decode cX7_open 0 = .ok (.aload_n 0, 1) := by decide +kernel
theorem dX7_open_1 : decode cX7_open 1 = .ok (.iconst 0, 1) := by decide +kernel
theorem dX7_open_2 : decode cX7_open 2 = .ok (.putfield 48, 3) := by decide +kernel
theorem dX7_open_5 : decode cX7_open 5 = .ok (.aload_n 0, 1) := by decide +kernel
theorem dX7_open_6 : decode cX7_open 6 = .ok (.iconst 0, 1) := by decide +kernel
theorem dX7_open_7 : decode cX7_open 7 = .ok (.putfield 52, 3) := by decide +kernel
theorem dX7_open_10 : decode cX7_open 10 = .ok (.aload_n 0, 1) := by decide +kernel
theorem dX7_open_11 : decode cX7_open 11 = .ok (.getfield 30, 3) := by decide +kernel
theorem dX7_open_14 : decode cX7_open 14 = .ok (.iconst 0, 1) := by decide +kernel
theorem dX7_open_15 : decode cX7_open 15 = .ok (.putfield 55, 3) := by decide +kernel
theorem dX7_open_18 : decode cX7_open 18 = .ok (.aload_n 0, 1) := by decide +kernel
theorem dX7_open_19 : decode cX7_open 19 = .ok (.getfield 23, 3) := by decide +kernel
theorem dX7_open_22 : decode cX7_open 22 = .ok (.iconst 0, 1) := by decide +kernel
theorem dX7_open_23 : decode cX7_open 23 = .ok (.invokestatic 58, 3) := by decide +kernel
theorem dX7_open_26 : decode cX7_open 26 = .ok (.iconst 0, 1) := by decide +kernel
theorem dX7_open_27 : decode cX7_open 27 = .ok (.istore_n 1, 1) := by decide +kernel
theorem dX7_open_28 : decode cX7_open 28 = .ok (.iload_n 1, 1) := by decide +kernel
theorem dX7_open_29 : decode cX7_open 29 = .ok (.bipush 30, 2) := by decide +kernel
theorem dX7_open_31 : decode cX7_open 31 = .ok (.if_icmp .ge 19, 3) := by decide +kernel
theorem dX7_open_34 : decode cX7_open 34 = .ok (.aload_n 0, 1) := by decide +kernel
theorem dX7_open_35 : decode cX7_open 35 = .ok (.getfield 11, 3) := by decide +kernel
theorem dX7_open_38 : decode cX7_open 38 = .ok (.iload_n 1, 1) := by decide +kernel
theorem dX7_open_39 : decode cX7_open 39 = .ok (.aaload, 1) := by decide +kernel
theorem dX7_open_40 : decode cX7_open 40 = .ok (.iconst (-1), 1) := by decide +kernel
theorem dX7_open_41 : decode cX7_open 41 = .ok (.putfield 64, 3) := by decide +kernel
theorem dX7_open_44 : decode cX7_open 44 = .ok (.iinc 1 1, 3) := by decide +kernel
theorem dX7_open_47 : decode cX7_open 47 = .ok (.goto (-19), 3) := by decide +kernel
theorem dX7_open_50 : decode cX7_open 50 = .ok (.iconst 0, 1) := by decide +kernel
theorem dX7_open_51 : decode cX7_open 51 = .ok (.istore_n 1, 1) := by decide +kernel
theorem dX7_open_52 : decode cX7_open 52 = .ok (.iload_n 1, 1) := by decide +kernel
theorem dX7_open_53 : decode cX7_open 53 = .ok (.iconst 3, 1) := by decide +kernel
theorem dX7_open_54 : decode cX7_open 54 = .ok (.if_icmp .ge 27, 3) := by decide +kernel
theorem dX7_open_57 : decode cX7_open 57 = .ok (.aload_n 0, 1) := by decide +kernel
theorem dX7_open_58 : decode cX7_open 58 = .ok (.getfield 19, 3) := by decide +kernel
theorem dX7_open_61 : decode cX7_open 61 = .ok (.iload_n 1, 1) := by decide +kernel
theorem dX7_open_62 : decode cX7_open 62 = .ok (.aaload, 1) := by decide +kernel
theorem dX7_open_63 : decode cX7_open 63 = .ok (.aload_n 0, 1) := by decide +kernel
theorem dX7_open_64 : decode cX7_open 64 = .ok (.getfield 34, 3) := by decide +kernel
theorem dX7_open_67 : decode cX7_open 67 = .ok (.iload_n 1, 1) := by decide +kernel
theorem dX7_open_68 : decode cX7_open 68 = .ok (.iconst 2, 1) := by decide +kernel
theorem dX7_open_69 : decode cX7_open 69 = .ok (.invokevirtual 67, 3) := by decide +kernel
theorem dX7_open_72 : decode cX7_open 72 = .ok (.invokevirtual 73, 3) := by decide +kernel
theorem dX7_open_75 : decode cX7_open 75 = .ok (.iinc 1 1, 3) := by decide +kernel
theorem dX7_open_78 : decode cX7_open 78 = .ok (.goto (-26), 3) := by decide +kernel
theorem dX7_open_81 : decode cX7_open 81 = .ok (.return_, 1) := by decide +kernel
theorem dX7_takeOver_0 : decode cX7_takeOver 0 = .ok (.aload_n 0, 1) := by decide +kernel
theorem dX7_takeOver_1 : decode cX7_takeOver 1 = .ok (.aload_n 1, 1) := by decide +kernel
theorem dX7_takeOver_2 : decode cX7_takeOver 2 = .ok (.getfield 48, 3) := by decide +kernel
theorem dX7_takeOver_5 : decode cX7_takeOver 5 = .ok (.putfield 48, 3) := by decide +kernel
theorem dX7_takeOver_8 : decode cX7_takeOver 8 = .ok (.aload_n 0, 1) := by decide +kernel
theorem dX7_takeOver_9 : decode cX7_takeOver 9 = .ok (.aload_n 1, 1) := by decide +kernel
theorem dX7_takeOver_10 : decode cX7_takeOver 10 = .ok (.getfield 52, 3) := by decide +kernel
theorem dX7_takeOver_13 : decode cX7_takeOver 13 = .ok (.putfield 52, 3) := by decide +kernel
theorem dX7_takeOver_16 : decode cX7_takeOver 16 = .ok (.aload_n 0, 1) := by decide +kernel
theorem dX7_takeOver_17 : decode cX7_takeOver 17 = .ok (.getfield 30, 3) := by decide +kernel
theorem dX7_takeOver_20 : decode cX7_takeOver 20 = .ok (.aload_n 1, 1) := by decide +kernel
theorem dX7_takeOver_21 : decode cX7_takeOver 21 = .ok (.getfield 30, 3) := by decide +kernel
theorem dX7_takeOver_24 : decode cX7_takeOver 24 = .ok (.invokevirtual 77, 3) := by decide +kernel
theorem dX7_takeOver_27 : decode cX7_takeOver 27 = .ok (.aload_n 1, 1) := by decide +kernel
theorem dX7_takeOver_28 : decode cX7_takeOver 28 = .ok (.getfield 23, 3) := by decide +kernel
theorem dX7_takeOver_31 : decode cX7_takeOver 31 = .ok (.iconst 0, 1) := by decide +kernel
theorem dX7_takeOver_32 : decode cX7_takeOver 32 = .ok (.aload_n 0, 1) := by decide +kernel
theorem dX7_takeOver_33 : decode cX7_takeOver 33 = .ok (.getfield 23, 3) := by decide +kernel
theorem dX7_takeOver_36 : decode cX7_takeOver 36 = .ok (.iconst 0, 1) := by decide +kernel
theorem dX7_takeOver_37 : decode cX7_takeOver 37 = .ok (.bipush 35, 2) := by decide +kernel
theorem dX7_takeOver_39 : decode cX7_takeOver 39 = .ok (.invokestatic 81, 3) := by decide +kernel
theorem dX7_takeOver_42 : decode cX7_takeOver 42 = .ok (.iconst 0, 1) := by decide +kernel
theorem dX7_takeOver_43 : decode cX7_takeOver 43 = .ok (.istore_n 2, 1) := by decide +kernel
theorem dX7_takeOver_44 : decode cX7_takeOver 44 = .ok (.iload_n 2, 1) := by decide +kernel
theorem dX7_takeOver_45 : decode cX7_takeOver 45 = .ok (.bipush 30, 2) := by decide +kernel
theorem dX7_takeOver_47 : decode cX7_takeOver 47 = .ok (.if_icmp .ge 24, 3) := by decide +kernel
theorem dX7_takeOver_50 : decode cX7_takeOver 50 = .ok (.aload_n 0, 1) := by decide +kernel
theorem dX7_takeOver_51 : decode cX7_takeOver 51 = .ok (.getfield 11, 3) := by decide +kernel
theorem dX7_takeOver_54 : decode cX7_takeOver 54 = .ok (.iload_n 2, 1) := by decide +kernel
theorem dX7_takeOver_55 : decode cX7_takeOver 55 = .ok (.aaload, 1) := by decide +kernel
theorem dX7_takeOver_56 : decode cX7_takeOver 56 = .ok (.aload_n 1, 1) := by decide +kernel
theorem dX7_takeOver_57 : decode cX7_takeOver 57 = .ok (.getfield 11, 3) := by decide +kernel
theorem dX7_takeOver_60 : decode cX7_takeOver 60 = .ok (.iload_n 2, 1) := by decide +kernel
theorem dX7_takeOver_61 : decode cX7_takeOver 61 = .ok (.aaload, 1) := by decide +kernel
theorem dX7_takeOver_62 : decode cX7_takeOver 62 = .ok (.invokevirtual 87, 3) := by decide +kernel
theorem dX7_takeOver_65 : decode cX7_takeOver 65 = .ok (.iinc 2 1, 3) := by decide +kernel
theorem dX7_takeOver_68 : decode cX7_takeOver 68 = .ok (.goto (-24), 3) := by decide +kernel
theorem dX7_takeOver_71 : decode cX7_takeOver 71 = .ok (.iconst 0, 1) := by decide +kernel
theorem dX7_takeOver_72 : decode cX7_takeOver 72 = .ok (.istore_n 2, 1) := by decide +kernel
theorem dX7_takeOver_73 : decode cX7_takeOver 73 = .ok (.iload_n 2, 1) := by decide +kernel
theorem dX7_takeOver_74 : decode cX7_takeOver 74 = .ok (.iconst 3, 1) := by decide +kernel
theorem dX7_takeOver_75 : decode cX7_takeOver 75 = .ok (.if_icmp .ge 24, 3) := by decide +kernel
theorem dX7_takeOver_78 : decode cX7_takeOver 78 = .ok (.aload_n 0, 1) := by decide +kernel
theorem dX7_takeOver_79 : decode cX7_takeOver 79 = .ok (.getfield 19, 3) := by decide +kernel
theorem dX7_takeOver_82 : decode cX7_takeOver 82 = .ok (.iload_n 2, 1) := by decide +kernel
theorem dX7_takeOver_83 : decode cX7_takeOver 83 = .ok (.aaload, 1) := by decide +kernel
theorem dX7_takeOver_84 : decode cX7_takeOver 84 = .ok (.aload_n 1, 1) := by decide +kernel
theorem dX7_takeOver_85 : decode cX7_takeOver 85 = .ok (.getfield 19, 3) := by decide +kernel
theorem dX7_takeOver_88 : decode cX7_takeOver 88 = .ok (.iload_n 2, 1) := by decide +kernel
theorem dX7_takeOver_89 : decode cX7_takeOver 89 = .ok (.aaload, 1) := by decide +kernel
theorem dX7_takeOver_90 : decode cX7_takeOver 90 = .ok (.invokevirtual 90, 3) := by decide +kernel
theorem dX7_takeOver_93 : decode cX7_takeOver 93 = .ok (.iinc 2 1, 3) := by decide +kernel
theorem dX7_takeOver_96 : decode cX7_takeOver 96 = .ok (.goto (-23), 3) := by decide +kernel
theorem dX7_takeOver_99 : decode cX7_takeOver 99 = .ok (.return_, 1) := by decide +kernel
theorem dX7_deskOf_0 : decode cX7_deskOf 0 = .ok (.aload_n 0, 1) := by decide +kernel
theorem dX7_deskOf_1 : decode cX7_deskOf 1 = .ok (.getfield 34, 3) := by decide +kernel
theorem dX7_deskOf_4 : decode cX7_deskOf 4 = .ok (.iload_n 1, 1) := by decide +kernel
theorem dX7_deskOf_5 : decode cX7_deskOf 5 = .ok (.invokevirtual 93, 3) := by decide +kernel
theorem dX7_deskOf_8 : decode cX7_deskOf 8 = .ok (.ifCond .eq 12, 3) := by decide +kernel
theorem dX7_deskOf_11 : decode cX7_deskOf 11 = .ok (.aload_n 0, 1) := by decide +kernel
theorem dX7_deskOf_12 : decode cX7_deskOf 12 = .ok (.getfield 19, 3) := by decide +kernel
theorem dX7_deskOf_15 : decode cX7_deskOf 15 = .ok (.iload_n 1, 1) := by decide +kernel
theorem dX7_deskOf_16 : decode cX7_deskOf 16 = .ok (.aaload, 1) := by decide +kernel
theorem dX7_deskOf_17 : decode cX7_deskOf 17 = .ok (.goto 4, 3) := by decide +kernel
theorem dX7_deskOf_20 : decode cX7_deskOf 20 = .ok (.aconst_null, 1) := by decide +kernel
theorem dX7_deskOf_21 : decode cX7_deskOf 21 = .ok (.areturn, 1) := by decide +kernel
theorem dX7_whoIsThere_0 : decode cX7_whoIsThere 0 = .ok (.iload_n 1, 1) := by decide +kernel
theorem dX7_whoIsThere_1 : decode cX7_whoIsThere 1 = .ok (.ifCond .lt 9, 3) := by decide +kernel
theorem dX7_whoIsThere_4 : decode cX7_whoIsThere 4 = .ok (.iload_n 1, 1) := by decide +kernel
theorem dX7_whoIsThere_5 : decode cX7_whoIsThere 5 = .ok (.bipush 30, 2) := by decide +kernel
theorem dX7_whoIsThere_7 : decode cX7_whoIsThere 7 = .ok (.if_icmp .lt 5, 3) := by decide +kernel
theorem dX7_whoIsThere_10 : decode cX7_whoIsThere 10 = .ok (.aconst_null, 1) := by decide +kernel
theorem dX7_whoIsThere_11 : decode cX7_whoIsThere 11 = .ok (.areturn, 1) := by decide +kernel
theorem dX7_whoIsThere_12 : decode cX7_whoIsThere 12 = .ok (.aload_n 0, 1) := by decide +kernel
theorem dX7_whoIsThere_13 : decode cX7_whoIsThere 13 = .ok (.getfield 11, 3) := by decide +kernel
theorem dX7_whoIsThere_16 : decode cX7_whoIsThere 16 = .ok (.iload_n 1, 1) := by decide +kernel
theorem dX7_whoIsThere_17 : decode cX7_whoIsThere 17 = .ok (.aaload, 1) := by decide +kernel
theorem dX7_whoIsThere_18 : decode cX7_whoIsThere 18 = .ok (.astore_n 2, 1) := by decide +kernel
theorem dX7_whoIsThere_19 : decode cX7_whoIsThere 19 = .ok (.aload_n 2, 1) := by decide +kernel
theorem dX7_whoIsThere_20 : decode cX7_whoIsThere 20 = .ok (.ifnull 11, 3) := by decide +kernel
theorem dX7_whoIsThere_23 : decode cX7_whoIsThere 23 = .ok (.aload_n 2, 1) := by decide +kernel
theorem dX7_whoIsThere_24 : decode cX7_whoIsThere 24 = .ok (.getfield 64, 3) := by decide +kernel
theorem dX7_whoIsThere_27 : decode cX7_whoIsThere 27 = .ok (.iconst (-1), 1) := by decide +kernel
theorem dX7_whoIsThere_28 : decode cX7_whoIsThere 28 = .ok (.if_icmp .ne 7, 3) := by decide +kernel
theorem dX7_whoIsThere_31 : decode cX7_whoIsThere 31 = .ok (.aconst_null, 1) := by decide +kernel
theorem dX7_whoIsThere_32 : decode cX7_whoIsThere 32 = .ok (.goto 4, 3) := by decide +kernel
theorem dX7_whoIsThere_35 : decode cX7_whoIsThere 35 = .ok (.aload_n 2, 1) := by decide +kernel
theorem dX7_whoIsThere_36 : decode cX7_whoIsThere 36 = .ok (.areturn, 1) := by decide +kernel
theorem dX7_howMany_0 : decode cX7_howMany 0 = .ok (.iconst 0, 1) := by decide +kernel
theorem dX7_howMany_1 : decode cX7_howMany 1 = .ok (.istore_n 1, 1) := by decide +kernel
theorem dX7_howMany_2 : decode cX7_howMany 2 = .ok (.iconst 0, 1) := by decide +kernel
theorem dX7_howMany_3 : decode cX7_howMany 3 = .ok (.istore_n 2, 1) := by decide +kernel
theorem dX7_howMany_4 : decode cX7_howMany 4 = .ok (.iload_n 2, 1) := by decide +kernel
theorem dX7_howMany_5 : decode cX7_howMany 5 = .ok (.bipush 30, 2) := by decide +kernel
theorem dX7_howMany_7 : decode cX7_howMany 7 = .ok (.if_icmp .ge 20, 3) := by decide +kernel
theorem dX7_howMany_10 : decode cX7_howMany 10 = .ok (.aload_n 0, 1) := by decide +kernel
theorem dX7_howMany_11 : decode cX7_howMany 11 = .ok (.iload_n 2, 1) := by decide +kernel
theorem dX7_howMany_12 : decode cX7_howMany 12 = .ok (.invokevirtual 97, 3) := by decide +kernel
theorem dX7_howMany_15 : decode cX7_howMany 15 = .ok (.ifnull 6, 3) := by decide +kernel
theorem dX7_howMany_18 : decode cX7_howMany 18 = .ok (.iinc 1 1, 3) := by decide +kernel
theorem dX7_howMany_21 : decode cX7_howMany 21 = .ok (.iinc 2 1, 3) := by decide +kernel
theorem dX7_howMany_24 : decode cX7_howMany 24 = .ok (.goto (-20), 3) := by decide +kernel
theorem dX7_howMany_27 : decode cX7_howMany 27 = .ok (.iload_n 1, 1) := by decide +kernel
theorem dX7_howMany_28 : decode cX7_howMany 28 = .ok (.ireturn, 1) := by decide +kernel
theorem dX7_placeOf_0 : decode cX7_placeOf 0 = .ok (.aload_n 0, 1) := by decide +kernel
theorem dX7_placeOf_1 : decode cX7_placeOf 1 = .ok (.aload_n 2, 1) := by decide +kernel
theorem dX7_placeOf_2 : decode cX7_placeOf 2 = .ok (.getfield 101, 3) := by decide +kernel
theorem dX7_placeOf_5 : decode cX7_placeOf 5 = .ok (.invokevirtual 104, 3) := by decide +kernel
theorem dX7_placeOf_8 : decode cX7_placeOf 8 = .ok (.astore_n 3, 1) := by decide +kernel
theorem dX7_placeOf_9 : decode cX7_placeOf 9 = .ok (.aload_n 3, 1) := by decide +kernel
theorem dX7_placeOf_10 : decode cX7_placeOf 10 = .ok (.ifnonnull 7, 3) := by decide +kernel
theorem dX7_placeOf_13 : decode cX7_placeOf 13 = .ok (.iconst (-1), 1) := by decide +kernel
theorem dX7_placeOf_14 : decode cX7_placeOf 14 = .ok (.goto 8, 3) := by decide +kernel
theorem dX7_placeOf_17 : decode cX7_placeOf 17 = .ok (.aload_n 3, 1) := by decide +kernel
theorem dX7_placeOf_18 : decode cX7_placeOf 18 = .ok (.iload_n 1, 1) := by decide +kernel
theorem dX7_placeOf_19 : decode cX7_placeOf 19 = .ok (.invokevirtual 108, 3) := by decide +kernel
theorem dX7_placeOf_22 : decode cX7_placeOf 22 = .ok (.ireturn, 1) := by decide +kernel
theorem dX7_counted_0 : decode cX7_counted 0 = .ok (.aload_n 0, 1) := by decide +kernel
theorem dX7_counted_1 : decode cX7_counted 1 = .ok (.getfield 34, 3) := by decide +kernel
theorem dX7_counted_4 : decode cX7_counted 4 = .ok (.iload_n 1, 1) := by decide +kernel
theorem dX7_counted_5 : decode cX7_counted 5 = .ok (.invokevirtual 112, 3) := by decide +kernel
theorem dX7_counted_8 : decode cX7_counted 8 = .ok (.ifCond .eq 13, 3) := by decide +kernel
theorem dX7_counted_11 : decode cX7_counted 11 = .ok (.iload_n 2, 1) := by decide +kernel
theorem dX7_counted_12 : decode cX7_counted 12 = .ok (.ifCond .lt 9, 3) := by decide +kernel
theorem dX7_counted_15 : decode cX7_counted 15 = .ok (.iload_n 2, 1) := by decide +kernel
theorem dX7_counted_16 : decode cX7_counted 16 = .ok (.bipush 7, 2) := by decide +kernel
theorem dX7_counted_18 : decode cX7_counted 18 = .ok (.if_icmp .lt 5, 3) := by decide +kernel
theorem dX7_counted_21 : decode cX7_counted 21 = .ok (.iconst 0, 1) := by decide +kernel
theorem dX7_counted_22 : decode cX7_counted 22 = .ok (.ireturn, 1) := by decide +kernel
theorem dX7_counted_23 : decode cX7_counted 23 = .ok (.aload_n 0, 1) := by decide +kernel
theorem dX7_counted_24 : decode cX7_counted 24 = .ok (.getfield 23, 3) := by decide +kernel
theorem dX7_counted_27 : decode cX7_counted 27 = .ok (.iload_n 1, 1) := by decide +kernel
theorem dX7_counted_28 : decode cX7_counted 28 = .ok (.bipush 7, 2) := by decide +kernel
theorem dX7_counted_30 : decode cX7_counted 30 = .ok (.imul, 1) := by decide +kernel
theorem dX7_counted_31 : decode cX7_counted 31 = .ok (.iload_n 2, 1) := by decide +kernel
theorem dX7_counted_32 : decode cX7_counted 32 = .ok (.iadd, 1) := by decide +kernel
theorem dX7_counted_33 : decode cX7_counted 33 = .ok (.iaload, 1) := by decide +kernel
theorem dX7_counted_34 : decode cX7_counted 34 = .ok (.ireturn, 1) := by decide +kernel
theorem dX7_raise_0 : decode cX7_raise 0 = .ok (.aload_n 0, 1) := by decide +kernel
theorem dX7_raise_1 : decode cX7_raise 1 = .ok (.getfield 34, 3) := by decide +kernel
theorem dX7_raise_4 : decode cX7_raise 4 = .ok (.iload_n 1, 1) := by decide +kernel
theorem dX7_raise_5 : decode cX7_raise 5 = .ok (.invokevirtual 112, 3) := by decide +kernel
theorem dX7_raise_8 : decode cX7_raise 8 = .ok (.ifCond .eq 28, 3) := by decide +kernel
theorem dX7_raise_11 : decode cX7_raise 11 = .ok (.iload_n 2, 1) := by decide +kernel
theorem dX7_raise_12 : decode cX7_raise 12 = .ok (.ifCond .lt 24, 3) := by decide +kernel
theorem dX7_raise_15 : decode cX7_raise 15 = .ok (.iload_n 2, 1) := by decide +kernel
theorem dX7_raise_16 : decode cX7_raise 16 = .ok (.bipush 7, 2) := by decide +kernel
theorem dX7_raise_18 : decode cX7_raise 18 = .ok (.if_icmp .ge 18, 3) := by decide +kernel
theorem dX7_raise_21 : decode cX7_raise 21 = .ok (.aload_n 0, 1) := by decide +kernel
theorem dX7_raise_22 : decode cX7_raise 22 = .ok (.getfield 23, 3) := by decide +kernel
theorem dX7_raise_25 : decode cX7_raise 25 = .ok (.iload_n 1, 1) := by decide +kernel
theorem dX7_raise_26 : decode cX7_raise 26 = .ok (.bipush 7, 2) := by decide +kernel
theorem dX7_raise_28 : decode cX7_raise 28 = .ok (.imul, 1) := by decide +kernel
theorem dX7_raise_29 : decode cX7_raise 29 = .ok (.iload_n 2, 1) := by decide +kernel
theorem dX7_raise_30 : decode cX7_raise 30 = .ok (.iadd, 1) := by decide +kernel
theorem dX7_raise_31 : decode cX7_raise 31 = .ok (.dup2, 1) := by decide +kernel
theorem dX7_raise_32 : decode cX7_raise 32 = .ok (.iaload, 1) := by decide +kernel
theorem dX7_raise_33 : decode cX7_raise 33 = .ok (.iload_n 3, 1) := by decide +kernel
theorem dX7_raise_34 : decode cX7_raise 34 = .ok (.iadd, 1) := by decide +kernel
theorem dX7_raise_35 : decode cX7_raise 35 = .ok (.iastore, 1) := by decide +kernel
theorem dX7_raise_36 : decode cX7_raise 36 = .ok (.return_, 1) := by decide +kernel
theorem dX7_unlikeOf_0 : decode cX7_unlikeOf 0 = .ok (.aload_n 0, 1) := by decide +kernel
theorem dX7_unlikeOf_1 : decode cX7_unlikeOf 1 = .ok (.iload_n 1, 1) := by decide +kernel
theorem dX7_unlikeOf_2 : decode cX7_unlikeOf 2 = .ok (.iconst 1, 1) := by decide +kernel
theorem dX7_unlikeOf_3 : decode cX7_unlikeOf 3 = .ok (.invokevirtual 115, 3) := by decide +kernel
theorem dX7_unlikeOf_6 : decode cX7_unlikeOf 6 = .ok (.istore_n 2, 1) := by decide +kernel
theorem dX7_unlikeOf_7 : decode cX7_unlikeOf 7 = .ok (.iload_n 2, 1) := by decide +kernel
theorem dX7_unlikeOf_8 : decode cX7_unlikeOf 8 = .ok (.ifCond .ne 8, 3) := by decide +kernel
theorem dX7_unlikeOf_11 : decode cX7_unlikeOf 11 = .ok (.ldc 118, 2) := by decide +kernel
theorem dX7_unlikeOf_13 : decode cX7_unlikeOf 13 = .ok (.goto 22, 3) := by decide +kernel
theorem dX7_unlikeOf_16 : decode cX7_unlikeOf 16 = .ok (.iload_n 2, 1) := by decide +kernel
theorem dX7_unlikeOf_17 : decode cX7_unlikeOf 17 = .ok (.i2l, 1) := by decide +kernel
theorem dX7_unlikeOf_18 : decode cX7_unlikeOf 18 = .ok (.aload_n 0, 1) := by decide +kernel
theorem dX7_unlikeOf_19 : decode cX7_unlikeOf 19 = .ok (.iload_n 1, 1) := by decide +kernel
theorem dX7_unlikeOf_20 : decode cX7_unlikeOf 20 = .ok (.iconst 3, 1) := by decide +kernel
theorem dX7_unlikeOf_21 : decode cX7_unlikeOf 21 = .ok (.invokevirtual 115, 3) := by decide +kernel
theorem dX7_unlikeOf_24 : decode cX7_unlikeOf 24 = .ok (.i2l, 1) := by decide +kernel
theorem dX7_unlikeOf_25 : decode cX7_unlikeOf 25 = .ok (.aload_n 0, 1) := by decide +kernel
theorem dX7_unlikeOf_26 : decode cX7_unlikeOf 26 = .ok (.iload_n 1, 1) := by decide +kernel
theorem dX7_unlikeOf_27 : decode cX7_unlikeOf 27 = .ok (.iconst 4, 1) := by decide +kernel
theorem dX7_unlikeOf_28 : decode cX7_unlikeOf 28 = .ok (.invokevirtual 115, 3) := by decide +kernel
theorem dX7_unlikeOf_31 : decode cX7_unlikeOf 31 = .ok (.i2l, 1) := by decide +kernel
theorem dX7_unlikeOf_32 : decode cX7_unlikeOf 32 = .ok (.invokestatic 119, 3) := by decide +kernel
theorem dX7_unlikeOf_35 : decode cX7_unlikeOf 35 = .ok (.ireturn, 1) := by decide +kernel
theorem dX7_drawLot_0 : decode cX7_drawLot 0 = .ok (.aload_n 0, 1) := by decide +kernel
theorem dX7_drawLot_1 : decode cX7_drawLot 1 = .ok (.aload_n 0, 1) := by decide +kernel
theorem dX7_drawLot_2 : decode cX7_drawLot 2 = .ok (.getfield 52, 3) := by decide +kernel
theorem dX7_drawLot_5 : decode cX7_drawLot 5 = .ok (.ldc 123, 2) := by decide +kernel
theorem dX7_drawLot_7 : decode cX7_drawLot 7 = .ok (.imul, 1) := by decide +kernel
theorem dX7_drawLot_8 : decode cX7_drawLot 8 = .ok (.sipush 12345, 3) := by decide +kernel
theorem dX7_drawLot_11 : decode cX7_drawLot 11 = .ok (.iadd, 1) := by decide +kernel
theorem dX7_drawLot_12 : decode cX7_drawLot 12 = .ok (.ldc 124, 2) := by decide +kernel
theorem dX7_drawLot_14 : decode cX7_drawLot 14 = .ok (.iand, 1) := by decide +kernel
theorem dX7_drawLot_15 : decode cX7_drawLot 15 = .ok (.putfield 52, 3) := by decide +kernel
theorem dX7_drawLot_18 : decode cX7_drawLot 18 = .ok (.iload_n 1, 1) := by decide +kernel
theorem dX7_drawLot_19 : decode cX7_drawLot 19 = .ok (.ifCond .gt 7, 3) := by decide +kernel
theorem dX7_drawLot_22 : decode cX7_drawLot 22 = .ok (.iconst 0, 1) := by decide +kernel
theorem dX7_drawLot_23 : decode cX7_drawLot 23 = .ok (.goto 13, 3) := by decide +kernel
theorem dX7_drawLot_26 : decode cX7_drawLot 26 = .ok (.aload_n 0, 1) := by decide +kernel
theorem dX7_drawLot_27 : decode cX7_drawLot 27 = .ok (.getfield 52, 3) := by decide +kernel
theorem dX7_drawLot_30 : decode cX7_drawLot 30 = .ok (.sipush 256, 3) := by decide +kernel
theorem dX7_drawLot_33 : decode cX7_drawLot 33 = .ok (.idiv, 1) := by decide +kernel
theorem dX7_drawLot_34 : decode cX7_drawLot 34 = .ok (.iload_n 1, 1) := by decide +kernel
theorem dX7_drawLot_35 : decode cX7_drawLot 35 = .ok (.irem, 1) := by decide +kernel
theorem dX7_drawLot_36 : decode cX7_drawLot 36 = .ok (.ireturn, 1) := by decide +kernel
theorem dX7_freeNumber_0 : decode cX7_freeNumber 0 = .ok (.iconst 0, 1) := by decide +kernel
theorem dX7_freeNumber_1 : decode cX7_freeNumber 1 = .ok (.istore_n 1, 1) := by decide +kernel
theorem dX7_freeNumber_2 : decode cX7_freeNumber 2 = .ok (.iload_n 1, 1) := by decide +kernel
theorem dX7_freeNumber_3 : decode cX7_freeNumber 3 = .ok (.bipush 30, 2) := by decide +kernel
theorem dX7_freeNumber_5 : decode cX7_freeNumber 5 = .ok (.if_icmp .ge 19, 3) := by decide +kernel
theorem dX7_freeNumber_8 : decode cX7_freeNumber 8 = .ok (.aload_n 0, 1) := by decide +kernel
theorem dX7_freeNumber_9 : decode cX7_freeNumber 9 = .ok (.iload_n 1, 1) := by decide +kernel
theorem dX7_freeNumber_10 : decode cX7_freeNumber 10 = .ok (.invokevirtual 97, 3) := by decide +kernel
theorem dX7_freeNumber_13 : decode cX7_freeNumber 13 = .ok (.ifnonnull 5, 3) := by decide +kernel
theorem dX7_freeNumber_16 : decode cX7_freeNumber 16 = .ok (.iload_n 1, 1) := by decide +kernel
theorem dX7_freeNumber_17 : decode cX7_freeNumber 17 = .ok (.ireturn, 1) := by decide +kernel
theorem dX7_freeNumber_18 : decode cX7_freeNumber 18 = .ok (.iinc 1 1, 3) := by decide +kernel
theorem dX7_freeNumber_21 : decode cX7_freeNumber 21 = .ok (.goto (-19), 3) := by decide +kernel
theorem dX7_freeNumber_24 : decode cX7_freeNumber 24 = .ok (.iconst (-1), 1) := by decide +kernel
theorem dX7_freeNumber_25 : decode cX7_freeNumber 25 = .ok (.ireturn, 1) := by decide +kernel
theorem dX7_arrive_0 : decode cX7_arrive 0 = .ok (.aload_n 0, 1) := by decide +kernel
theorem dX7_arrive_1 : decode cX7_arrive 1 = .ok (.invokevirtual 125, 3) := by decide +kernel
theorem dX7_arrive_4 : decode cX7_arrive 4 = .ok (.istore 4, 2) := by decide +kernel
theorem dX7_arrive_6 : decode cX7_arrive 6 = .ok (.iload 4, 2) := by decide +kernel
theorem dX7_arrive_8 : decode cX7_arrive 8 = .ok (.ifCond .lt 10, 3) := by decide +kernel
theorem dX7_arrive_11 : decode cX7_arrive 11 = .ok (.iload 4, 2) := by decide +kernel
theorem dX7_arrive_13 : decode cX7_arrive 13 = .ok (.bipush 30, 2) := by decide +kernel
theorem dX7_arrive_15 : decode cX7_arrive 15 = .ok (.if_icmp .lt 5, 3) := by decide +kernel
theorem dX7_arrive_18 : decode cX7_arrive 18 = .ok (.iconst (-1), 1) := by decide +kernel
theorem dX7_arrive_19 : decode cX7_arrive 19 = .ok (.ireturn, 1) := by decide +kernel
theorem dX7_arrive_20 : decode cX7_arrive 20 = .ok (.aload_n 0, 1) := by decide +kernel
theorem dX7_arrive_21 : decode cX7_arrive 21 = .ok (.getfield 11, 3) := by decide +kernel
theorem dX7_arrive_24 : decode cX7_arrive 24 = .ok (.iload 4, 2) := by decide +kernel
theorem dX7_arrive_26 : decode cX7_arrive 26 = .ok (.aaload, 1) := by decide +kernel
theorem dX7_arrive_27 : decode cX7_arrive 27 = .ok (.astore 5, 2) := by decide +kernel
theorem dX7_arrive_29 : decode cX7_arrive 29 = .ok (.aload 5, 2) := by decide +kernel
theorem dX7_arrive_31 : decode cX7_arrive 31 = .ok (.iload_n 1, 1) := by decide +kernel
theorem dX7_arrive_32 : decode cX7_arrive 32 = .ok (.iload_n 2, 1) := by decide +kernel
theorem dX7_arrive_33 : decode cX7_arrive 33 = .ok (.aload_n 0, 1) := by decide +kernel
theorem dX7_arrive_34 : decode cX7_arrive 34 = .ok (.getfield 48, 3) := by decide +kernel
theorem dX7_arrive_37 : decode cX7_arrive 37 = .ok (.invokevirtual 129, 3) := by decide +kernel
theorem dX7_arrive_40 : decode cX7_arrive 40 = .ok (.aload_n 0, 1) := by decide +kernel
theorem dX7_arrive_41 : decode cX7_arrive 41 = .ok (.iload_n 1, 1) := by decide +kernel
theorem dX7_arrive_42 : decode cX7_arrive 42 = .ok (.iconst 0, 1) := by decide +kernel
theorem dX7_arrive_43 : decode cX7_arrive 43 = .ok (.iconst 1, 1) := by decide +kernel
theorem dX7_arrive_44 : decode cX7_arrive 44 = .ok (.invokevirtual 133, 3) := by decide +kernel
theorem dX7_arrive_47 : decode cX7_arrive 47 = .ok (.iload_n 3, 1) := by decide +kernel
theorem dX7_arrive_48 : decode cX7_arrive 48 = .ok (.ifCond .eq 11, 3) := by decide +kernel
theorem dX7_arrive_51 : decode cX7_arrive 51 = .ok (.aload_n 0, 1) := by decide +kernel
theorem dX7_arrive_52 : decode cX7_arrive 52 = .ok (.iload 4, 2) := by decide +kernel
theorem dX7_arrive_54 : decode cX7_arrive 54 = .ok (.aload 5, 2) := by decide +kernel
theorem dX7_arrive_56 : decode cX7_arrive 56 = .ok (.invokevirtual 136, 3) := by decide +kernel
theorem dX7_arrive_59 : decode cX7_arrive 59 = .ok (.iload 4, 2) := by decide +kernel
theorem dX7_arrive_61 : decode cX7_arrive 61 = .ok (.ireturn, 1) := by decide +kernel
theorem dX7_comeIn_0 : decode cX7_comeIn 0 = .ok (.aload_n 0, 1) := by decide +kernel
theorem dX7_comeIn_1 : decode cX7_comeIn 1 = .ok (.aload_n 2, 1) := by decide +kernel
theorem dX7_comeIn_2 : decode cX7_comeIn 2 = .ok (.getfield 101, 3) := by decide +kernel
theorem dX7_comeIn_5 : decode cX7_comeIn 5 = .ok (.invokevirtual 104, 3) := by decide +kernel
theorem dX7_comeIn_8 : decode cX7_comeIn 8 = .ok (.astore_n 3, 1) := by decide +kernel
theorem dX7_comeIn_9 : decode cX7_comeIn 9 = .ok (.aload_n 3, 1) := by decide +kernel
theorem dX7_comeIn_10 : decode cX7_comeIn 10 = .ok (.ifnonnull 4, 3) := by decide +kernel
theorem dX7_comeIn_13 : decode cX7_comeIn 13 = .ok (.return_, 1) := by decide +kernel
theorem dX7_comeIn_14 : decode cX7_comeIn 14 = .ok (.aload_n 0, 1) := by decide +kernel
theorem dX7_comeIn_15 : decode cX7_comeIn 15 = .ok (.aload_n 2, 1) := by decide +kernel
theorem dX7_comeIn_16 : decode cX7_comeIn 16 = .ok (.getfield 140, 3) := by decide +kernel
theorem dX7_comeIn_19 : decode cX7_comeIn 19 = .ok (.bipush 6, 2) := by decide +kernel
theorem dX7_comeIn_21 : decode cX7_comeIn 21 = .ok (.aload_n 0, 1) := by decide +kernel
theorem dX7_comeIn_22 : decode cX7_comeIn 22 = .ok (.getfield 34, 3) := by decide +kernel
theorem dX7_comeIn_25 : decode cX7_comeIn 25 = .ok (.invokevirtual 143, 3) := by decide +kernel
theorem dX7_comeIn_28 : decode cX7_comeIn 28 = .ok (.ineg, 1) := by decide +kernel
theorem dX7_comeIn_29 : decode cX7_comeIn 29 = .ok (.invokevirtual 133, 3) := by decide +kernel
theorem dX7_comeIn_32 : decode cX7_comeIn 32 = .ok (.aload_n 2, 1) := by decide +kernel
theorem dX7_comeIn_33 : decode cX7_comeIn 33 = .ok (.iconst 0, 1) := by decide +kernel
theorem dX7_comeIn_34 : decode cX7_comeIn 34 = .ok (.putfield 64, 3) := by decide +kernel
theorem dX7_comeIn_37 : decode cX7_comeIn 37 = .ok (.aload_n 2, 1) := by decide +kernel
theorem dX7_comeIn_38 : decode cX7_comeIn 38 = .ok (.aload_n 0, 1) := by decide +kernel
theorem dX7_comeIn_39 : decode cX7_comeIn 39 = .ok (.getfield 48, 3) := by decide +kernel
theorem dX7_comeIn_42 : decode cX7_comeIn 42 = .ok (.putfield 146, 3) := by decide +kernel
theorem dX7_comeIn_45 : decode cX7_comeIn 45 = .ok (.aload_n 2, 1) := by decide +kernel
theorem dX7_comeIn_46 : decode cX7_comeIn 46 = .ok (.iconst (-1), 1) := by decide +kernel
theorem dX7_comeIn_47 : decode cX7_comeIn 47 = .ok (.putfield 149, 3) := by decide +kernel
theorem dX7_comeIn_50 : decode cX7_comeIn 50 = .ok (.aload_n 3, 1) := by decide +kernel
theorem dX7_comeIn_51 : decode cX7_comeIn 51 = .ok (.iload_n 1, 1) := by decide +kernel
theorem dX7_comeIn_52 : decode cX7_comeIn 52 = .ok (.invokevirtual 152, 3) := by decide +kernel
theorem dX7_comeIn_55 : decode cX7_comeIn 55 = .ok (.return_, 1) := by decide +kernel
theorem dX7_standAside_0 : decode cX7_standAside 0 = .ok (.aload_n 0, 1) := by decide +kernel
theorem dX7_standAside_1 : decode cX7_standAside 1 = .ok (.aload_n 2, 1) := by decide +kernel
theorem dX7_standAside_2 : decode cX7_standAside 2 = .ok (.getfield 101, 3) := by decide +kernel
theorem dX7_standAside_5 : decode cX7_standAside 5 = .ok (.invokevirtual 104, 3) := by decide +kernel
theorem dX7_standAside_8 : decode cX7_standAside 8 = .ok (.astore_n 3, 1) := by decide +kernel
theorem dX7_standAside_9 : decode cX7_standAside 9 = .ok (.aload_n 3, 1) := by decide +kernel
theorem dX7_standAside_10 : decode cX7_standAside 10 = .ok (.ifnull 8, 3) := by decide +kernel
theorem dX7_standAside_13 : decode cX7_standAside 13 = .ok (.aload_n 3, 1) := by decide +kernel
theorem dX7_standAside_14 : decode cX7_standAside 14 = .ok (.iload_n 1, 1) := by decide +kernel
theorem dX7_standAside_15 : decode cX7_standAside 15 = .ok (.invokevirtual 155, 3) := by decide +kernel
theorem dX7_standAside_18 : decode cX7_standAside 18 = .ok (.return_, 1) := by decide +kernel
theorem dX7_goOut_0 : decode cX7_goOut 0 = .ok (.aload_n 0, 1) := by decide +kernel
theorem dX7_goOut_1 : decode cX7_goOut 1 = .ok (.iload_n 1, 1) := by decide +kernel
theorem dX7_goOut_2 : decode cX7_goOut 2 = .ok (.aload_n 2, 1) := by decide +kernel
theorem dX7_goOut_3 : decode cX7_goOut 3 = .ok (.invokevirtual 158, 3) := by decide +kernel
theorem dX7_goOut_6 : decode cX7_goOut 6 = .ok (.aload_n 2, 1) := by decide +kernel
theorem dX7_goOut_7 : decode cX7_goOut 7 = .ok (.dup, 1) := by decide +kernel
theorem dX7_goOut_8 : decode cX7_goOut 8 = .ok (.getfield 161, 3) := by decide +kernel
theorem dX7_goOut_11 : decode cX7_goOut 11 = .ok (.iconst 1, 1) := by decide +kernel
theorem dX7_goOut_12 : decode cX7_goOut 12 = .ok (.iadd, 1) := by decide +kernel
theorem dX7_goOut_13 : decode cX7_goOut 13 = .ok (.putfield 161, 3) := by decide +kernel
theorem dX7_goOut_16 : decode cX7_goOut 16 = .ok (.aload_n 0, 1) := by decide +kernel
theorem dX7_goOut_17 : decode cX7_goOut 17 = .ok (.getfield 34, 3) := by decide +kernel
theorem dX7_goOut_20 : decode cX7_goOut 20 = .ok (.invokevirtual 164, 3) := by decide +kernel
theorem dX7_goOut_23 : decode cX7_goOut 23 = .ok (.ifCond .ne 10, 3) := by decide +kernel
theorem dX7_goOut_26 : decode cX7_goOut 26 = .ok (.aload_n 0, 1) := by decide +kernel
theorem dX7_goOut_27 : decode cX7_goOut 27 = .ok (.iload_n 1, 1) := by decide +kernel
theorem dX7_goOut_28 : decode cX7_goOut 28 = .ok (.aload_n 2, 1) := by decide +kernel
theorem dX7_goOut_29 : decode cX7_goOut 29 = .ok (.invokevirtual 136, 3) := by decide +kernel
theorem dX7_goOut_32 : decode cX7_goOut 32 = .ok (.return_, 1) := by decide +kernel
theorem dX7_goOut_33 : decode cX7_goOut 33 = .ok (.aload_n 2, 1) := by decide +kernel
theorem dX7_goOut_34 : decode cX7_goOut 34 = .ok (.iconst 1, 1) := by decide +kernel
theorem dX7_goOut_35 : decode cX7_goOut 35 = .ok (.putfield 64, 3) := by decide +kernel
theorem dX7_goOut_38 : decode cX7_goOut 38 = .ok (.aload_n 2, 1) := by decide +kernel
theorem dX7_goOut_39 : decode cX7_goOut 39 = .ok (.aload_n 0, 1) := by decide +kernel
theorem dX7_goOut_40 : decode cX7_goOut 40 = .ok (.getfield 48, 3) := by decide +kernel
theorem dX7_goOut_43 : decode cX7_goOut 43 = .ok (.aload_n 0, 1) := by decide +kernel
theorem dX7_goOut_44 : decode cX7_goOut 44 = .ok (.getfield 34, 3) := by decide +kernel
theorem dX7_goOut_47 : decode cX7_goOut 47 = .ok (.invokevirtual 164, 3) := by decide +kernel
theorem dX7_goOut_50 : decode cX7_goOut 50 = .ok (.iadd, 1) := by decide +kernel
theorem dX7_goOut_51 : decode cX7_goOut 51 = .ok (.putfield 149, 3) := by decide +kernel
theorem dX7_goOut_54 : decode cX7_goOut 54 = .ok (.return_, 1) := by decide +kernel
theorem dX7_giveUp_0 : decode cX7_giveUp 0 = .ok (.aload_n 0, 1) := by decide +kernel
theorem dX7_giveUp_1 : decode cX7_giveUp 1 = .ok (.iload_n 1, 1) := by decide +kernel
theorem dX7_giveUp_2 : decode cX7_giveUp 2 = .ok (.aload_n 2, 1) := by decide +kernel
theorem dX7_giveUp_3 : decode cX7_giveUp 3 = .ok (.invokevirtual 158, 3) := by decide +kernel
theorem dX7_giveUp_6 : decode cX7_giveUp 6 = .ok (.aload_n 2, 1) := by decide +kernel
theorem dX7_giveUp_7 : decode cX7_giveUp 7 = .ok (.iconst (-1), 1) := by decide +kernel
theorem dX7_giveUp_8 : decode cX7_giveUp 8 = .ok (.putfield 64, 3) := by decide +kernel
theorem dX7_giveUp_11 : decode cX7_giveUp 11 = .ok (.aload_n 0, 1) := by decide +kernel
theorem dX7_giveUp_12 : decode cX7_giveUp 12 = .ok (.aload_n 2, 1) := by decide +kernel
theorem dX7_giveUp_13 : decode cX7_giveUp 13 = .ok (.getfield 140, 3) := by decide +kernel
theorem dX7_giveUp_16 : decode cX7_giveUp 16 = .ok (.iconst 2, 1) := by decide +kernel
theorem dX7_giveUp_17 : decode cX7_giveUp 17 = .ok (.iconst 1, 1) := by decide +kernel
theorem dX7_giveUp_18 : decode cX7_giveUp 18 = .ok (.invokevirtual 133, 3) := by decide +kernel
theorem dX7_giveUp_21 : decode cX7_giveUp 21 = .ok (.return_, 1) := by decide +kernel
theorem dX7_placeOfNext_0 : decode cX7_placeOfNext 0 = .ok (.aload_n 0, 1) := by decide +kernel
theorem dX7_placeOfNext_1 : decode cX7_placeOfNext 1 = .ok (.getfield 38, 3) := by decide +kernel
theorem dX7_placeOfNext_4 : decode cX7_placeOfNext 4 = .ok (.iload_n 2, 1) := by decide +kernel
theorem dX7_placeOfNext_5 : decode cX7_placeOfNext 5 = .ok (.invokevirtual 167, 3) := by decide +kernel
theorem dX7_placeOfNext_8 : decode cX7_placeOfNext 8 = .ok (.ifCond .eq 10, 3) := by decide +kernel
theorem dX7_placeOfNext_11 : decode cX7_placeOfNext 11 = .ok (.aload_n 1, 1) := by decide +kernel
theorem dX7_placeOfNext_12 : decode cX7_placeOfNext 12 = .ok (.getfield 172, 3) := by decide +kernel
theorem dX7_placeOfNext_15 : decode cX7_placeOfNext 15 = .ok (.ifCond .ne 12, 3) := by decide +kernel
theorem dX7_placeOfNext_18 : decode cX7_placeOfNext 18 = .ok (.iload_n 2, 1) := by decide +kernel
theorem dX7_placeOfNext_19 : decode cX7_placeOfNext 19 = .ok (.aload_n 1, 1) := by decide +kernel
theorem dX7_placeOfNext_20 : decode cX7_placeOfNext 20 = .ok (.getfield 172, 3) := by decide +kernel
theorem dX7_placeOfNext_23 : decode cX7_placeOfNext 23 = .ok (.invokestatic 173, 3) := by decide +kernel
theorem dX7_placeOfNext_26 : decode cX7_placeOfNext 26 = .ok (.ireturn, 1) := by decide +kernel
theorem dX7_placeOfNext_27 : decode cX7_placeOfNext 27 = .ok (.aload_n 0, 1) := by decide +kernel
theorem dX7_placeOfNext_28 : decode cX7_placeOfNext 28 = .ok (.getfield 42, 3) := by decide +kernel
theorem dX7_placeOfNext_31 : decode cX7_placeOfNext 31 = .ok (.aload_n 0, 1) := by decide +kernel
theorem dX7_placeOfNext_32 : decode cX7_placeOfNext 32 = .ok (.getfield 48, 3) := by decide +kernel
theorem dX7_placeOfNext_35 : decode cX7_placeOfNext 35 = .ok (.aload_n 0, 1) := by decide +kernel
theorem dX7_placeOfNext_36 : decode cX7_placeOfNext 36 = .ok (.getfield 34, 3) := by decide +kernel
theorem dX7_placeOfNext_39 : decode cX7_placeOfNext 39 = .ok (.invokevirtual 176, 3) := by decide +kernel
theorem dX7_placeOfNext_42 : decode cX7_placeOfNext 42 = .ok (.invokevirtual 179, 3) := by decide +kernel
theorem dX7_placeOfNext_45 : decode cX7_placeOfNext 45 = .ok (.iconst 0, 1) := by decide +kernel
theorem dX7_placeOfNext_46 : decode cX7_placeOfNext 46 = .ok (.istore_n 3, 1) := by decide +kernel
theorem dX7_placeOfNext_47 : decode cX7_placeOfNext 47 = .ok (.iload_n 3, 1) := by decide +kernel
theorem dX7_placeOfNext_48 : decode cX7_placeOfNext 48 = .ok (.aload_n 1, 1) := by decide +kernel
theorem dX7_placeOfNext_49 : decode cX7_placeOfNext 49 = .ok (.getfield 172, 3) := by decide +kernel
theorem dX7_placeOfNext_52 : decode cX7_placeOfNext 52 = .ok (.if_icmp .ge 65, 3) := by decide +kernel
theorem dX7_placeOfNext_55 : decode cX7_placeOfNext 55 = .ok (.aload_n 0, 1) := by decide +kernel
theorem dX7_placeOfNext_56 : decode cX7_placeOfNext 56 = .ok (.aload_n 1, 1) := by decide +kernel
theorem dX7_placeOfNext_57 : decode cX7_placeOfNext 57 = .ok (.iload_n 3, 1) := by decide +kernel
theorem dX7_placeOfNext_58 : decode cX7_placeOfNext 58 = .ok (.invokevirtual 185, 3) := by decide +kernel
theorem dX7_placeOfNext_61 : decode cX7_placeOfNext 61 = .ok (.invokevirtual 97, 3) := by decide +kernel
theorem dX7_placeOfNext_64 : decode cX7_placeOfNext 64 = .ok (.astore 4, 2) := by decide +kernel
theorem dX7_placeOfNext_66 : decode cX7_placeOfNext 66 = .ok (.aload 4, 2) := by decide +kernel
theorem dX7_placeOfNext_68 : decode cX7_placeOfNext 68 = .ok (.ifnull 43, 3) := by decide +kernel
theorem dX7_placeOfNext_71 : decode cX7_placeOfNext 71 = .ok (.aload_n 0, 1) := by decide +kernel
theorem dX7_placeOfNext_72 : decode cX7_placeOfNext 72 = .ok (.getfield 42, 3) := by decide +kernel
theorem dX7_placeOfNext_75 : decode cX7_placeOfNext 75 = .ok (.aload 4, 2) := by decide +kernel
theorem dX7_placeOfNext_77 : decode cX7_placeOfNext 77 = .ok (.getfield 146, 3) := by decide +kernel
theorem dX7_placeOfNext_80 : decode cX7_placeOfNext 80 = .ok (.aload 4, 2) := by decide +kernel
theorem dX7_placeOfNext_82 : decode cX7_placeOfNext 82 = .ok (.getfield 188, 3) := by decide +kernel
theorem dX7_placeOfNext_85 : decode cX7_placeOfNext 85 = .ok (.aload 4, 2) := by decide +kernel
theorem dX7_placeOfNext_87 : decode cX7_placeOfNext 87 = .ok (.getfield 140, 3) := by decide +kernel
theorem dX7_placeOfNext_90 : decode cX7_placeOfNext 90 = .ok (.aload_n 0, 1) := by decide +kernel
theorem dX7_placeOfNext_91 : decode cX7_placeOfNext 91 = .ok (.getfield 34, 3) := by decide +kernel
theorem dX7_placeOfNext_94 : decode cX7_placeOfNext 94 = .ok (.aload 4, 2) := by decide +kernel
theorem dX7_placeOfNext_96 : decode cX7_placeOfNext 96 = .ok (.getfield 140, 3) := by decide +kernel
theorem dX7_placeOfNext_99 : decode cX7_placeOfNext 99 = .ok (.iconst 1, 1) := by decide +kernel
theorem dX7_placeOfNext_100 : decode cX7_placeOfNext 100 = .ok (.invokevirtual 191, 3) := by decide +kernel
theorem dX7_placeOfNext_103 : decode cX7_placeOfNext 103 = .ok (.aload 4, 2) := by decide +kernel
theorem dX7_placeOfNext_105 : decode cX7_placeOfNext 105 = .ok (.getfield 161, 3) := by decide +kernel
theorem dX7_placeOfNext_108 : decode cX7_placeOfNext 108 = .ok (.invokevirtual 194, 3) := by decide +kernel
theorem dX7_placeOfNext_111 : decode cX7_placeOfNext 111 = .ok (.iinc 3 1, 3) := by decide +kernel
theorem dX7_placeOfNext_114 : decode cX7_placeOfNext 114 = .ok (.goto (-67), 3) := by decide +kernel
theorem dX7_placeOfNext_117 : decode cX7_placeOfNext 117 = .ok (.aload_n 0, 1) := by decide +kernel
theorem dX7_placeOfNext_118 : decode cX7_placeOfNext 118 = .ok (.getfield 38, 3) := by decide +kernel
theorem dX7_placeOfNext_121 : decode cX7_placeOfNext 121 = .ok (.iload_n 2, 1) := by decide +kernel
theorem dX7_placeOfNext_122 : decode cX7_placeOfNext 122 = .ok (.aload_n 0, 1) := by decide +kernel
theorem dX7_placeOfNext_123 : decode cX7_placeOfNext 123 = .ok (.getfield 42, 3) := by decide +kernel
theorem dX7_placeOfNext_126 : decode cX7_placeOfNext 126 = .ok (.invokevirtual 197, 3) := by decide +kernel
theorem dX7_placeOfNext_129 : decode cX7_placeOfNext 129 = .ok (.ireturn, 1) := by decide +kernel
theorem dX7_passMinute_0 : decode cX7_passMinute 0 = .ok (.aload_n 0, 1) := by decide +kernel
theorem dX7_passMinute_1 : decode cX7_passMinute 1 = .ok (.invokevirtual 201, 3) := by decide +kernel
theorem dX7_passMinute_4 : decode cX7_passMinute 4 = .ok (.aload_n 0, 1) := by decide +kernel
theorem dX7_passMinute_5 : decode cX7_passMinute 5 = .ok (.invokevirtual 204, 3) := by decide +kernel
theorem dX7_passMinute_8 : decode cX7_passMinute 8 = .ok (.aload_n 0, 1) := by decide +kernel
theorem dX7_passMinute_9 : decode cX7_passMinute 9 = .ok (.invokevirtual 207, 3) := by decide +kernel
theorem dX7_passMinute_12 : decode cX7_passMinute 12 = .ok (.iconst 0, 1) := by decide +kernel
theorem dX7_passMinute_13 : decode cX7_passMinute 13 = .ok (.istore_n 1, 1) := by decide +kernel
theorem dX7_passMinute_14 : decode cX7_passMinute 14 = .ok (.iload_n 1, 1) := by decide +kernel
theorem dX7_passMinute_15 : decode cX7_passMinute 15 = .ok (.iconst 3, 1) := by decide +kernel
theorem dX7_passMinute_16 : decode cX7_passMinute 16 = .ok (.if_icmp .ge 25, 3) := by decide +kernel
theorem dX7_passMinute_19 : decode cX7_passMinute 19 = .ok (.aload_n 0, 1) := by decide +kernel
theorem dX7_passMinute_20 : decode cX7_passMinute 20 = .ok (.iload_n 1, 1) := by decide +kernel
theorem dX7_passMinute_21 : decode cX7_passMinute 21 = .ok (.invokevirtual 104, 3) := by decide +kernel
theorem dX7_passMinute_24 : decode cX7_passMinute 24 = .ok (.astore_n 2, 1) := by decide +kernel
theorem dX7_passMinute_25 : decode cX7_passMinute 25 = .ok (.aload_n 2, 1) := by decide +kernel
theorem dX7_passMinute_26 : decode cX7_passMinute 26 = .ok (.ifnull 9, 3) := by decide +kernel
theorem dX7_passMinute_29 : decode cX7_passMinute 29 = .ok (.aload_n 0, 1) := by decide +kernel
theorem dX7_passMinute_30 : decode cX7_passMinute 30 = .ok (.iload_n 1, 1) := by decide +kernel
theorem dX7_passMinute_31 : decode cX7_passMinute 31 = .ok (.aload_n 2, 1) := by decide +kernel
theorem dX7_passMinute_32 : decode cX7_passMinute 32 = .ok (.invokevirtual 210, 3) := by decide +kernel
theorem dX7_passMinute_35 : decode cX7_passMinute 35 = .ok (.iinc 1 1, 3) := by decide +kernel
theorem dX7_passMinute_38 : decode cX7_passMinute 38 = .ok (.goto (-24), 3) := by decide +kernel
theorem dX7_passMinute_41 : decode cX7_passMinute 41 = .ok (.aload_n 0, 1) := by decide +kernel
theorem dX7_passMinute_42 : decode cX7_passMinute 42 = .ok (.dup, 1) := by decide +kernel
theorem dX7_passMinute_43 : decode cX7_passMinute 43 = .ok (.getfield 48, 3) := by decide +kernel
theorem dX7_passMinute_46 : decode cX7_passMinute 46 = .ok (.iconst 1, 1) := by decide +kernel
theorem dX7_passMinute_47 : decode cX7_passMinute 47 = .ok (.iadd, 1) := by decide +kernel
theorem dX7_passMinute_48 : decode cX7_passMinute 48 = .ok (.putfield 48, 3) := by decide +kernel
theorem dX7_passMinute_51 : decode cX7_passMinute 51 = .ok (.aload_n 0, 1) := by decide +kernel
theorem dX7_passMinute_52 : decode cX7_passMinute 52 = .ok (.invokevirtual 214, 3) := by decide +kernel
theorem dX7_passMinute_55 : decode cX7_passMinute 55 = .ok (.return_, 1) := by decide +kernel
theorem dX7_newOnesCome_0 : decode cX7_newOnesCome 0 = .ok (.iconst 0, 1) := by decide +kernel
theorem dX7_newOnesCome_1 : decode cX7_newOnesCome 1 = .ok (.istore_n 1, 1) := by decide +kernel
theorem dX7_newOnesCome_2 : decode cX7_newOnesCome 2 = .ok (.iload_n 1, 1) := by decide +kernel
theorem dX7_newOnesCome_3 : decode cX7_newOnesCome 3 = .ok (.aload_n 0, 1) := by decide +kernel
theorem dX7_newOnesCome_4 : decode cX7_newOnesCome 4 = .ok (.getfield 34, 3) := by decide +kernel
theorem dX7_newOnesCome_7 : decode cX7_newOnesCome 7 = .ok (.getfield 217, 3) := by decide +kernel
theorem dX7_newOnesCome_10 : decode cX7_newOnesCome 10 = .ok (.if_icmp .ge 67, 3) := by decide +kernel
theorem dX7_newOnesCome_13 : decode cX7_newOnesCome 13 = .ok (.aload_n 0, 1) := by decide +kernel
theorem dX7_newOnesCome_14 : decode cX7_newOnesCome 14 = .ok (.bipush 16, 2) := by decide +kernel
theorem dX7_newOnesCome_16 : decode cX7_newOnesCome 16 = .ok (.invokevirtual 220, 3) := by decide +kernel
theorem dX7_newOnesCome_19 : decode cX7_newOnesCome 19 = .ok (.aload_n 0, 1) := by decide +kernel
theorem dX7_newOnesCome_20 : decode cX7_newOnesCome 20 = .ok (.getfield 34, 3) := by decide +kernel
theorem dX7_newOnesCome_23 : decode cX7_newOnesCome 23 = .ok (.iload_n 1, 1) := by decide +kernel
theorem dX7_newOnesCome_24 : decode cX7_newOnesCome 24 = .ok (.iconst 0, 1) := by decide +kernel
theorem dX7_newOnesCome_25 : decode cX7_newOnesCome 25 = .ok (.invokevirtual 191, 3) := by decide +kernel
theorem dX7_newOnesCome_28 : decode cX7_newOnesCome 28 = .ok (.if_icmp .ge 43, 3) := by decide +kernel
theorem dX7_newOnesCome_31 : decode cX7_newOnesCome 31 = .ok (.aload_n 0, 1) := by decide +kernel
theorem dX7_newOnesCome_32 : decode cX7_newOnesCome 32 = .ok (.invokevirtual 223, 3) := by decide +kernel
theorem dX7_newOnesCome_35 : decode cX7_newOnesCome 35 = .ok (.istore_n 2, 1) := by decide +kernel
theorem dX7_newOnesCome_36 : decode cX7_newOnesCome 36 = .ok (.aload_n 0, 1) := by decide +kernel
theorem dX7_newOnesCome_37 : decode cX7_newOnesCome 37 = .ok (.getfield 34, 3) := by decide +kernel
theorem dX7_newOnesCome_40 : decode cX7_newOnesCome 40 = .ok (.iload_n 1, 1) := by decide +kernel
theorem dX7_newOnesCome_41 : decode cX7_newOnesCome 41 = .ok (.iconst 5, 1) := by decide +kernel
theorem dX7_newOnesCome_42 : decode cX7_newOnesCome 42 = .ok (.invokevirtual 191, 3) := by decide +kernel
theorem dX7_newOnesCome_45 : decode cX7_newOnesCome 45 = .ok (.iconst 2, 1) := by decide +kernel
theorem dX7_newOnesCome_46 : decode cX7_newOnesCome 46 = .ok (.if_icmp .ne 11, 3) := by decide +kernel
theorem dX7_newOnesCome_49 : decode cX7_newOnesCome 49 = .ok (.aload_n 0, 1) := by decide +kernel
theorem dX7_newOnesCome_50 : decode cX7_newOnesCome 50 = .ok (.iload_n 2, 1) := by decide +kernel
theorem dX7_newOnesCome_51 : decode cX7_newOnesCome 51 = .ok (.invokevirtual 226, 3) := by decide +kernel
theorem dX7_newOnesCome_54 : decode cX7_newOnesCome 54 = .ok (.ifCond .eq 7, 3) := by decide +kernel
theorem dX7_newOnesCome_57 : decode cX7_newOnesCome 57 = .ok (.iconst 1, 1) := by decide +kernel
theorem dX7_newOnesCome_58 : decode cX7_newOnesCome 58 = .ok (.goto 4, 3) := by decide +kernel
theorem dX7_newOnesCome_61 : decode cX7_newOnesCome 61 = .ok (.iconst 0, 1) := by decide +kernel
theorem dX7_newOnesCome_62 : decode cX7_newOnesCome 62 = .ok (.istore_n 3, 1) := by decide +kernel
theorem dX7_newOnesCome_63 : decode cX7_newOnesCome 63 = .ok (.aload_n 0, 1) := by decide +kernel
theorem dX7_newOnesCome_64 : decode cX7_newOnesCome 64 = .ok (.iload_n 1, 1) := by decide +kernel
theorem dX7_newOnesCome_65 : decode cX7_newOnesCome 65 = .ok (.iload_n 2, 1) := by decide +kernel
theorem dX7_newOnesCome_66 : decode cX7_newOnesCome 66 = .ok (.iload_n 3, 1) := by decide +kernel
theorem dX7_newOnesCome_67 : decode cX7_newOnesCome 67 = .ok (.invokevirtual 229, 3) := by decide +kernel
theorem dX7_newOnesCome_70 : decode cX7_newOnesCome 70 = .ok (.pop, 1) := by decide +kernel
theorem dX7_newOnesCome_71 : decode cX7_newOnesCome 71 = .ok (.iinc 1 1, 3) := by decide +kernel
theorem dX7_newOnesCome_74 : decode cX7_newOnesCome 74 = .ok (.goto (-72), 3) := by decide +kernel
theorem dX7_newOnesCome_77 : decode cX7_newOnesCome 77 = .ok (.return_, 1) := by decide +kernel
theorem dX7_emptiest_0 : decode cX7_emptiest 0 = .ok (.iconst 0, 1) := by decide +kernel
theorem dX7_emptiest_1 : decode cX7_emptiest 1 = .ok (.istore_n 1, 1) := by decide +kernel
theorem dX7_emptiest_2 : decode cX7_emptiest 2 = .ok (.bipush 31, 2) := by decide +kernel
theorem dX7_emptiest_4 : decode cX7_emptiest 4 = .ok (.istore_n 2, 1) := by decide +kernel
theorem dX7_emptiest_5 : decode cX7_emptiest 5 = .ok (.iconst 0, 1) := by decide +kernel
theorem dX7_emptiest_6 : decode cX7_emptiest 6 = .ok (.istore_n 3, 1) := by decide +kernel
theorem dX7_emptiest_7 : decode cX7_emptiest 7 = .ok (.iload_n 3, 1) := by decide +kernel
theorem dX7_emptiest_8 : decode cX7_emptiest 8 = .ok (.iconst 3, 1) := by decide +kernel
theorem dX7_emptiest_9 : decode cX7_emptiest 9 = .ok (.if_icmp .ge 38, 3) := by decide +kernel
theorem dX7_emptiest_12 : decode cX7_emptiest 12 = .ok (.aload_n 0, 1) := by decide +kernel
theorem dX7_emptiest_13 : decode cX7_emptiest 13 = .ok (.iload_n 3, 1) := by decide +kernel
theorem dX7_emptiest_14 : decode cX7_emptiest 14 = .ok (.invokevirtual 104, 3) := by decide +kernel
theorem dX7_emptiest_17 : decode cX7_emptiest 17 = .ok (.astore 4, 2) := by decide +kernel
theorem dX7_emptiest_19 : decode cX7_emptiest 19 = .ok (.aload 4, 2) := by decide +kernel
theorem dX7_emptiest_21 : decode cX7_emptiest 21 = .ok (.ifnull 20, 3) := by decide +kernel
theorem dX7_emptiest_24 : decode cX7_emptiest 24 = .ok (.aload 4, 2) := by decide +kernel
theorem dX7_emptiest_26 : decode cX7_emptiest 26 = .ok (.getfield 172, 3) := by decide +kernel
theorem dX7_emptiest_29 : decode cX7_emptiest 29 = .ok (.iload_n 2, 1) := by decide +kernel
theorem dX7_emptiest_30 : decode cX7_emptiest 30 = .ok (.if_icmp .ge 11, 3) := by decide +kernel
theorem dX7_emptiest_33 : decode cX7_emptiest 33 = .ok (.aload 4, 2) := by decide +kernel
theorem dX7_emptiest_35 : decode cX7_emptiest 35 = .ok (.getfield 172, 3) := by decide +kernel
theorem dX7_emptiest_38 : decode cX7_emptiest 38 = .ok (.istore_n 2, 1) := by decide +kernel
theorem dX7_emptiest_39 : decode cX7_emptiest 39 = .ok (.iload_n 3, 1) := by decide +kernel
theorem dX7_emptiest_40 : decode cX7_emptiest 40 = .ok (.istore_n 1, 1) := by decide +kernel
theorem dX7_emptiest_41 : decode cX7_emptiest 41 = .ok (.iinc 3 1, 3) := by decide +kernel
theorem dX7_emptiest_44 : decode cX7_emptiest 44 = .ok (.goto (-37), 3) := by decide +kernel
theorem dX7_emptiest_47 : decode cX7_emptiest 47 = .ok (.iload_n 1, 1) := by decide +kernel
theorem dX7_emptiest_48 : decode cX7_emptiest 48 = .ok (.ireturn, 1) := by decide +kernel
theorem dX7_isEmptyAt_0 : decode cX7_isEmptyAt 0 = .ok (.aload_n 0, 1) := by decide +kernel
theorem dX7_isEmptyAt_1 : decode cX7_isEmptyAt 1 = .ok (.iload_n 1, 1) := by decide +kernel
theorem dX7_isEmptyAt_2 : decode cX7_isEmptyAt 2 = .ok (.invokevirtual 104, 3) := by decide +kernel
theorem dX7_isEmptyAt_5 : decode cX7_isEmptyAt 5 = .ok (.astore_n 2, 1) := by decide +kernel
theorem dX7_isEmptyAt_6 : decode cX7_isEmptyAt 6 = .ok (.aload_n 2, 1) := by decide +kernel
theorem dX7_isEmptyAt_7 : decode cX7_isEmptyAt 7 = .ok (.ifnull 14, 3) := by decide +kernel
theorem dX7_isEmptyAt_10 : decode cX7_isEmptyAt 10 = .ok (.aload_n 2, 1) := by decide +kernel
theorem dX7_isEmptyAt_11 : decode cX7_isEmptyAt 11 = .ok (.getfield 172, 3) := by decide +kernel
theorem dX7_isEmptyAt_14 : decode cX7_isEmptyAt 14 = .ok (.ifCond .ne 7, 3) := by decide +kernel
theorem dX7_isEmptyAt_17 : decode cX7_isEmptyAt 17 = .ok (.iconst 1, 1) := by decide +kernel
theorem dX7_isEmptyAt_18 : decode cX7_isEmptyAt 18 = .ok (.goto 4, 3) := by decide +kernel
theorem dX7_isEmptyAt_21 : decode cX7_isEmptyAt 21 = .ok (.iconst 0, 1) := by decide +kernel
theorem dX7_isEmptyAt_22 : decode cX7_isEmptyAt 22 = .ok (.ireturn, 1) := by decide +kernel
theorem dX7_thoseOutsideComeIn_0 : decode cX7_thoseOutsideComeIn 0 = .ok (.iconst 0, 1) := by decide +kernel
theorem dX7_thoseOutsideComeIn_1 : decode cX7_thoseOutsideComeIn 1 = .ok (.istore_n 1, 1) := by decide +kernel
theorem dX7_thoseOutsideComeIn_2 : decode cX7_thoseOutsideComeIn 2 = .ok (.iload_n 1, 1) := by decide +kernel
theorem dX7_thoseOutsideComeIn_3 : decode cX7_thoseOutsideComeIn 3 = .ok (.bipush 30, 2) := by decide +kernel
theorem dX7_thoseOutsideComeIn_5 : decode cX7_thoseOutsideComeIn 5 = .ok (.if_icmp .ge 88, 3) := by decide +kernel
theorem dX7_thoseOutsideComeIn_8 : decode cX7_thoseOutsideComeIn 8 = .ok (.aload_n 0, 1) := by decide +kernel
theorem dX7_thoseOutsideComeIn_9 : decode cX7_thoseOutsideComeIn 9 = .ok (.iload_n 1, 1) := by decide +kernel
theorem dX7_thoseOutsideComeIn_10 : decode cX7_thoseOutsideComeIn 10 = .ok (.invokevirtual 97, 3) := by decide +kernel
theorem dX7_thoseOutsideComeIn_13 : decode cX7_thoseOutsideComeIn 13 = .ok (.astore_n 2, 1) := by decide +kernel
theorem dX7_thoseOutsideComeIn_14 : decode cX7_thoseOutsideComeIn 14 = .ok (.aload_n 2, 1) := by decide +kernel
theorem dX7_thoseOutsideComeIn_15 : decode cX7_thoseOutsideComeIn 15 = .ok (.ifnonnull 6, 3) := by decide +kernel
theorem dX7_thoseOutsideComeIn_18 : decode cX7_thoseOutsideComeIn 18 = .ok (.goto 69, 3) := by decide +kernel
theorem dX7_thoseOutsideComeIn_21 : decode cX7_thoseOutsideComeIn 21 = .ok (.aload_n 2, 1) := by decide +kernel
theorem dX7_thoseOutsideComeIn_22 : decode cX7_thoseOutsideComeIn 22 = .ok (.getfield 64, 3) := by decide +kernel
theorem dX7_thoseOutsideComeIn_25 : decode cX7_thoseOutsideComeIn 25 = .ok (.iconst 2, 1) := by decide +kernel
theorem dX7_thoseOutsideComeIn_26 : decode cX7_thoseOutsideComeIn 26 = .ok (.if_icmp .ne 18, 3) := by decide +kernel
theorem dX7_thoseOutsideComeIn_29 : decode cX7_thoseOutsideComeIn 29 = .ok (.aload_n 0, 1) := by decide +kernel
theorem dX7_thoseOutsideComeIn_30 : decode cX7_thoseOutsideComeIn 30 = .ok (.aload_n 2, 1) := by decide +kernel
theorem dX7_thoseOutsideComeIn_31 : decode cX7_thoseOutsideComeIn 31 = .ok (.getfield 101, 3) := by decide +kernel
theorem dX7_thoseOutsideComeIn_34 : decode cX7_thoseOutsideComeIn 34 = .ok (.invokevirtual 226, 3) := by decide +kernel
theorem dX7_thoseOutsideComeIn_37 : decode cX7_thoseOutsideComeIn 37 = .ok (.ifCond .eq 7, 3) := by decide +kernel
theorem dX7_thoseOutsideComeIn_40 : decode cX7_thoseOutsideComeIn 40 = .ok (.iconst 1, 1) := by decide +kernel
theorem dX7_thoseOutsideComeIn_41 : decode cX7_thoseOutsideComeIn 41 = .ok (.goto 4, 3) := by decide +kernel
theorem dX7_thoseOutsideComeIn_44 : decode cX7_thoseOutsideComeIn 44 = .ok (.iconst 0, 1) := by decide +kernel
theorem dX7_thoseOutsideComeIn_45 : decode cX7_thoseOutsideComeIn 45 = .ok (.istore_n 3, 1) := by decide +kernel
theorem dX7_thoseOutsideComeIn_46 : decode cX7_thoseOutsideComeIn 46 = .ok (.aload_n 2, 1) := by decide +kernel
theorem dX7_thoseOutsideComeIn_47 : decode cX7_thoseOutsideComeIn 47 = .ok (.getfield 64, 3) := by decide +kernel
theorem dX7_thoseOutsideComeIn_50 : decode cX7_thoseOutsideComeIn 50 = .ok (.iconst 1, 1) := by decide +kernel
theorem dX7_thoseOutsideComeIn_51 : decode cX7_thoseOutsideComeIn 51 = .ok (.if_icmp .ne 18, 3) := by decide +kernel
theorem dX7_thoseOutsideComeIn_54 : decode cX7_thoseOutsideComeIn 54 = .ok (.aload_n 2, 1) := by decide +kernel
theorem dX7_thoseOutsideComeIn_55 : decode cX7_thoseOutsideComeIn 55 = .ok (.getfield 149, 3) := by decide +kernel
theorem dX7_thoseOutsideComeIn_58 : decode cX7_thoseOutsideComeIn 58 = .ok (.aload_n 0, 1) := by decide +kernel
theorem dX7_thoseOutsideComeIn_59 : decode cX7_thoseOutsideComeIn 59 = .ok (.getfield 48, 3) := by decide +kernel
theorem dX7_thoseOutsideComeIn_62 : decode cX7_thoseOutsideComeIn 62 = .ok (.if_icmp .gt 7, 3) := by decide +kernel
theorem dX7_thoseOutsideComeIn_65 : decode cX7_thoseOutsideComeIn 65 = .ok (.iconst 1, 1) := by decide +kernel
theorem dX7_thoseOutsideComeIn_66 : decode cX7_thoseOutsideComeIn 66 = .ok (.goto 4, 3) := by decide +kernel
theorem dX7_thoseOutsideComeIn_69 : decode cX7_thoseOutsideComeIn 69 = .ok (.iconst 0, 1) := by decide +kernel
theorem dX7_thoseOutsideComeIn_70 : decode cX7_thoseOutsideComeIn 70 = .ok (.istore 4, 2) := by decide +kernel
theorem dX7_thoseOutsideComeIn_72 : decode cX7_thoseOutsideComeIn 72 = .ok (.iload_n 3, 1) := by decide +kernel
theorem dX7_thoseOutsideComeIn_73 : decode cX7_thoseOutsideComeIn 73 = .ok (.ifCond .ne 8, 3) := by decide +kernel
theorem dX7_thoseOutsideComeIn_76 : decode cX7_thoseOutsideComeIn 76 = .ok (.iload 4, 2) := by decide +kernel
theorem dX7_thoseOutsideComeIn_78 : decode cX7_thoseOutsideComeIn 78 = .ok (.ifCond .eq 9, 3) := by decide +kernel
theorem dX7_thoseOutsideComeIn_81 : decode cX7_thoseOutsideComeIn 81 = .ok (.aload_n 0, 1) := by decide +kernel
theorem dX7_thoseOutsideComeIn_82 : decode cX7_thoseOutsideComeIn 82 = .ok (.iload_n 1, 1) := by decide +kernel
theorem dX7_thoseOutsideComeIn_83 : decode cX7_thoseOutsideComeIn 83 = .ok (.aload_n 2, 1) := by decide +kernel
theorem dX7_thoseOutsideComeIn_84 : decode cX7_thoseOutsideComeIn 84 = .ok (.invokevirtual 136, 3) := by decide +kernel
theorem dX7_thoseOutsideComeIn_87 : decode cX7_thoseOutsideComeIn 87 = .ok (.iinc 1 1, 3) := by decide +kernel
theorem dX7_thoseOutsideComeIn_90 : decode cX7_thoseOutsideComeIn 90 = .ok (.goto (-88), 3) := by decide +kernel
theorem dX7_thoseOutsideComeIn_93 : decode cX7_thoseOutsideComeIn 93 = .ok (.return_, 1) := by decide +kernel
theorem dX7_turnersGoOut_0 : decode cX7_turnersGoOut 0 = .ok (.iconst 0, 1) := by decide +kernel
theorem dX7_turnersGoOut_1 : decode cX7_turnersGoOut 1 = .ok (.istore_n 1, 1) := by decide +kernel
theorem dX7_turnersGoOut_2 : decode cX7_turnersGoOut 2 = .ok (.iload_n 1, 1) := by decide +kernel
theorem dX7_turnersGoOut_3 : decode cX7_turnersGoOut 3 = .ok (.bipush 30, 2) := by decide +kernel
theorem dX7_turnersGoOut_5 : decode cX7_turnersGoOut 5 = .ok (.if_icmp .ge 78, 3) := by decide +kernel
theorem dX7_turnersGoOut_8 : decode cX7_turnersGoOut 8 = .ok (.aload_n 0, 1) := by decide +kernel
theorem dX7_turnersGoOut_9 : decode cX7_turnersGoOut 9 = .ok (.iload_n 1, 1) := by decide +kernel
theorem dX7_turnersGoOut_10 : decode cX7_turnersGoOut 10 = .ok (.invokevirtual 97, 3) := by decide +kernel
theorem dX7_turnersGoOut_13 : decode cX7_turnersGoOut 13 = .ok (.astore_n 2, 1) := by decide +kernel
theorem dX7_turnersGoOut_14 : decode cX7_turnersGoOut 14 = .ok (.aload_n 2, 1) := by decide +kernel
theorem dX7_turnersGoOut_15 : decode cX7_turnersGoOut 15 = .ok (.ifnull 62, 3) := by decide +kernel
theorem dX7_turnersGoOut_18 : decode cX7_turnersGoOut 18 = .ok (.aload_n 2, 1) := by decide +kernel
theorem dX7_turnersGoOut_19 : decode cX7_turnersGoOut 19 = .ok (.getfield 64, 3) := by decide +kernel
theorem dX7_turnersGoOut_22 : decode cX7_turnersGoOut 22 = .ok (.ifCond .ne 55, 3) := by decide +kernel
theorem dX7_turnersGoOut_25 : decode cX7_turnersGoOut 25 = .ok (.aload_n 0, 1) := by decide +kernel
theorem dX7_turnersGoOut_26 : decode cX7_turnersGoOut 26 = .ok (.getfield 34, 3) := by decide +kernel
theorem dX7_turnersGoOut_29 : decode cX7_turnersGoOut 29 = .ok (.aload_n 2, 1) := by decide +kernel
theorem dX7_turnersGoOut_30 : decode cX7_turnersGoOut 30 = .ok (.getfield 140, 3) := by decide +kernel
theorem dX7_turnersGoOut_33 : decode cX7_turnersGoOut 33 = .ok (.iconst 5, 1) := by decide +kernel
theorem dX7_turnersGoOut_34 : decode cX7_turnersGoOut 34 = .ok (.invokevirtual 191, 3) := by decide +kernel
theorem dX7_turnersGoOut_37 : decode cX7_turnersGoOut 37 = .ok (.iconst 1, 1) := by decide +kernel
theorem dX7_turnersGoOut_38 : decode cX7_turnersGoOut 38 = .ok (.if_icmp .eq 6, 3) := by decide +kernel
theorem dX7_turnersGoOut_41 : decode cX7_turnersGoOut 41 = .ok (.goto 36, 3) := by decide +kernel
theorem dX7_turnersGoOut_44 : decode cX7_turnersGoOut 44 = .ok (.aload_n 0, 1) := by decide +kernel
theorem dX7_turnersGoOut_45 : decode cX7_turnersGoOut 45 = .ok (.aload_n 2, 1) := by decide +kernel
theorem dX7_turnersGoOut_46 : decode cX7_turnersGoOut 46 = .ok (.getfield 101, 3) := by decide +kernel
theorem dX7_turnersGoOut_49 : decode cX7_turnersGoOut 49 = .ok (.invokevirtual 104, 3) := by decide +kernel
theorem dX7_turnersGoOut_52 : decode cX7_turnersGoOut 52 = .ok (.astore_n 3, 1) := by decide +kernel
theorem dX7_turnersGoOut_53 : decode cX7_turnersGoOut 53 = .ok (.aload_n 3, 1) := by decide +kernel
theorem dX7_turnersGoOut_54 : decode cX7_turnersGoOut 54 = .ok (.ifnull 23, 3) := by decide +kernel
theorem dX7_turnersGoOut_57 : decode cX7_turnersGoOut 57 = .ok (.aload_n 3, 1) := by decide +kernel
theorem dX7_turnersGoOut_58 : decode cX7_turnersGoOut 58 = .ok (.aload_n 3, 1) := by decide +kernel
theorem dX7_turnersGoOut_59 : decode cX7_turnersGoOut 59 = .ok (.getfield 172, 3) := by decide +kernel
theorem dX7_turnersGoOut_62 : decode cX7_turnersGoOut 62 = .ok (.iconst 1, 1) := by decide +kernel
theorem dX7_turnersGoOut_63 : decode cX7_turnersGoOut 63 = .ok (.isub, 1) := by decide +kernel
theorem dX7_turnersGoOut_64 : decode cX7_turnersGoOut 64 = .ok (.invokevirtual 185, 3) := by decide +kernel
theorem dX7_turnersGoOut_67 : decode cX7_turnersGoOut 67 = .ok (.iload_n 1, 1) := by decide +kernel
theorem dX7_turnersGoOut_68 : decode cX7_turnersGoOut 68 = .ok (.if_icmp .eq 9, 3) := by decide +kernel
theorem dX7_turnersGoOut_71 : decode cX7_turnersGoOut 71 = .ok (.aload_n 0, 1) := by decide +kernel
theorem dX7_turnersGoOut_72 : decode cX7_turnersGoOut 72 = .ok (.iload_n 1, 1) := by decide +kernel
theorem dX7_turnersGoOut_73 : decode cX7_turnersGoOut 73 = .ok (.aload_n 2, 1) := by decide +kernel
theorem dX7_turnersGoOut_74 : decode cX7_turnersGoOut 74 = .ok (.invokevirtual 232, 3) := by decide +kernel
theorem dX7_turnersGoOut_77 : decode cX7_turnersGoOut 77 = .ok (.iinc 1 1, 3) := by decide +kernel
theorem dX7_turnersGoOut_80 : decode cX7_turnersGoOut 80 = .ok (.goto (-78), 3) := by decide +kernel
theorem dX7_turnersGoOut_83 : decode cX7_turnersGoOut 83 = .ok (.return_, 1) := by decide +kernel
theorem dX7_serve_0 : decode cX7_serve 0 = .ok (.aload_n 2, 1) := by decide +kernel
theorem dX7_serve_1 : decode cX7_serve 1 = .ok (.getfield 235, 3) := by decide +kernel
theorem dX7_serve_4 : decode cX7_serve 4 = .ok (.aload_n 0, 1) := by decide +kernel
theorem dX7_serve_5 : decode cX7_serve 5 = .ok (.getfield 48, 3) := by decide +kernel
theorem dX7_serve_8 : decode cX7_serve 8 = .ok (.if_icmp .gt 17, 3) := by decide +kernel
theorem dX7_serve_11 : decode cX7_serve 11 = .ok (.aload_n 2, 1) := by decide +kernel
theorem dX7_serve_12 : decode cX7_serve 12 = .ok (.getfield 238, 3) := by decide +kernel
theorem dX7_serve_15 : decode cX7_serve 15 = .ok (.ifCond .le 10, 3) := by decide +kernel
theorem dX7_serve_18 : decode cX7_serve 18 = .ok (.aload_n 2, 1) := by decide +kernel
theorem dX7_serve_19 : decode cX7_serve 19 = .ok (.getfield 172, 3) := by decide +kernel
theorem dX7_serve_22 : decode cX7_serve 22 = .ok (.ifCond .ne 4, 3) := by decide +kernel
theorem dX7_serve_25 : decode cX7_serve 25 = .ok (.return_, 1) := by decide +kernel
theorem dX7_serve_26 : decode cX7_serve 26 = .ok (.aload_n 0, 1) := by decide +kernel
theorem dX7_serve_27 : decode cX7_serve 27 = .ok (.getfield 34, 3) := by decide +kernel
theorem dX7_serve_30 : decode cX7_serve 30 = .ok (.iload_n 1, 1) := by decide +kernel
theorem dX7_serve_31 : decode cX7_serve 31 = .ok (.iconst 0, 1) := by decide +kernel
theorem dX7_serve_32 : decode cX7_serve 32 = .ok (.invokevirtual 67, 3) := by decide +kernel
theorem dX7_serve_35 : decode cX7_serve 35 = .ok (.istore_n 3, 1) := by decide +kernel
theorem dX7_serve_36 : decode cX7_serve 36 = .ok (.iload_n 3, 1) := by decide +kernel
theorem dX7_serve_37 : decode cX7_serve 37 = .ok (.iconst 3, 1) := by decide +kernel
theorem dX7_serve_38 : decode cX7_serve 38 = .ok (.if_icmp .ne 14, 3) := by decide +kernel
theorem dX7_serve_41 : decode cX7_serve 41 = .ok (.aload_n 0, 1) := by decide +kernel
theorem dX7_serve_42 : decode cX7_serve 42 = .ok (.aload_n 2, 1) := by decide +kernel
theorem dX7_serve_43 : decode cX7_serve 43 = .ok (.getfield 172, 3) := by decide +kernel
theorem dX7_serve_46 : decode cX7_serve 46 = .ok (.invokevirtual 220, 3) := by decide +kernel
theorem dX7_serve_49 : decode cX7_serve 49 = .ok (.goto 9, 3) := by decide +kernel
theorem dX7_serve_52 : decode cX7_serve 52 = .ok (.aload_n 0, 1) := by decide +kernel
theorem dX7_serve_53 : decode cX7_serve 53 = .ok (.aload_n 2, 1) := by decide +kernel
theorem dX7_serve_54 : decode cX7_serve 54 = .ok (.iload_n 3, 1) := by decide +kernel
theorem dX7_serve_55 : decode cX7_serve 55 = .ok (.invokevirtual 241, 3) := by decide +kernel
theorem dX7_serve_58 : decode cX7_serve 58 = .ok (.istore 4, 2) := by decide +kernel
theorem dX7_serve_60 : decode cX7_serve 60 = .ok (.aload_n 2, 1) := by decide +kernel
theorem dX7_serve_61 : decode cX7_serve 61 = .ok (.iload 4, 2) := by decide +kernel
theorem dX7_serve_63 : decode cX7_serve 63 = .ok (.invokevirtual 185, 3) := by decide +kernel
theorem dX7_serve_66 : decode cX7_serve 66 = .ok (.istore 5, 2) := by decide +kernel
theorem dX7_serve_68 : decode cX7_serve 68 = .ok (.aload_n 0, 1) := by decide +kernel
theorem dX7_serve_69 : decode cX7_serve 69 = .ok (.iload 5, 2) := by decide +kernel
theorem dX7_serve_71 : decode cX7_serve 71 = .ok (.invokevirtual 97, 3) := by decide +kernel
theorem dX7_serve_74 : decode cX7_serve 74 = .ok (.astore 6, 2) := by decide +kernel
theorem dX7_serve_76 : decode cX7_serve 76 = .ok (.aload 6, 2) := by decide +kernel
theorem dX7_serve_78 : decode cX7_serve 78 = .ok (.ifnonnull 4, 3) := by decide +kernel
theorem dX7_serve_81 : decode cX7_serve 81 = .ok (.return_, 1) := by decide +kernel
theorem dX7_serve_82 : decode cX7_serve 82 = .ok (.aload_n 0, 1) := by decide +kernel
theorem dX7_serve_83 : decode cX7_serve 83 = .ok (.getfield 30, 3) := by decide +kernel
theorem dX7_serve_86 : decode cX7_serve 86 = .ok (.aload_n 0, 1) := by decide +kernel
theorem dX7_serve_87 : decode cX7_serve 87 = .ok (.getfield 48, 3) := by decide +kernel
theorem dX7_serve_90 : decode cX7_serve 90 = .ok (.iload_n 1, 1) := by decide +kernel
theorem dX7_serve_91 : decode cX7_serve 91 = .ok (.iload 5, 2) := by decide +kernel
theorem dX7_serve_93 : decode cX7_serve 93 = .ok (.aload_n 2, 1) := by decide +kernel
theorem dX7_serve_94 : decode cX7_serve 94 = .ok (.getfield 172, 3) := by decide +kernel
theorem dX7_serve_97 : decode cX7_serve 97 = .ok (.iload 4, 2) := by decide +kernel
