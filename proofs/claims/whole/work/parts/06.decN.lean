theorem dM_need_3 : decode b_M_need 3 = .ok (.getfield 143, 3) := by decide +kernel
theorem dM_need_6 : decode b_M_need 6 = .ok (.iconst 1, 1) := by decide +kernel
theorem dM_need_7 : decode b_M_need 7 = .ok (.isub, 1) := by decide +kernel
theorem dM_need_8 : decode b_M_need 8 = .ok (.imul, 1) := by decide +kernel
theorem dM_need_9 : decode b_M_need 9 = .ok (.istore_n 2, 1) := by decide +kernel
theorem dM_need_10 : decode b_M_need 10 = .ok (.iconst 0, 1) := by decide +kernel
theorem dM_need_11 : decode b_M_need 11 = .ok (.istore_n 3, 1) := by decide +kernel
theorem dM_need_12 : decode b_M_need 12 = .ok (.iload_n 3, 1) := by decide +kernel
theorem dM_need_13 : decode b_M_need 13 = .ok (.bipush 80, 2) := by decide +kernel
theorem dM_need_15 : decode b_M_need 15 = .ok (.if_icmp .ge 27, 3) := by decide +kernel
theorem dM_need_18 : decode b_M_need 18 = .ok (.aload_n 0, 1) := by decide +kernel
theorem dM_need_19 : decode b_M_need 19 = .ok (.getfield 60, 3) := by decide +kernel
theorem dM_need_22 : decode b_M_need 22 = .ok (.iload_n 2, 1) := by decide +kernel
theorem dM_need_23 : decode b_M_need 23 = .ok (.iload_n 3, 1) := by decide +kernel
theorem dM_need_24 : decode b_M_need 24 = .ok (.iadd, 1) := by decide +kernel
theorem dM_need_25 : decode b_M_need 25 = .ok (.iload_n 3, 1) := by decide +kernel
theorem dM_need_26 : decode b_M_need 26 = .ok (.iload_n 1, 1) := by decide +kernel
theorem dM_need_27 : decode b_M_need 27 = .ok (.if_icmp .ne 7, 3) := by decide +kernel
theorem dM_need_30 : decode b_M_need 30 = .ok (.iconst 1, 1) := by decide +kernel
theorem dM_need_31 : decode b_M_need 31 = .ok (.goto 4, 3) := by decide +kernel
theorem dM_need_34 : decode b_M_need 34 = .ok (.iconst 0, 1) := by decide +kernel
theorem dM_need_35 : decode b_M_need 35 = .ok (.bastore, 1) := by decide +kernel
theorem dM_need_36 : decode b_M_need 36 = .ok (.iinc 3 1, 3) := by decide +kernel
theorem dM_need_39 : decode b_M_need 39 = .ok (.goto (-27), 3) := by decide +kernel
theorem dM_need_42 : decode b_M_need 42 = .ok (.iload_n 1, 1) := by decide +kernel
theorem dM_need_43 : decode b_M_need 43 = .ok (.istore_n 3, 1) := by decide +kernel
theorem dM_need_44 : decode b_M_need 44 = .ok (.iload_n 3, 1) := by decide +kernel
theorem dM_need_45 : decode b_M_need 45 = .ok (.ifCond .lt 73, 3) := by decide +kernel
theorem dM_need_48 : decode b_M_need 48 = .ok (.aload_n 0, 1) := by decide +kernel
theorem dM_need_49 : decode b_M_need 49 = .ok (.getfield 60, 3) := by decide +kernel
theorem dM_need_52 : decode b_M_need 52 = .ok (.iload_n 2, 1) := by decide +kernel
theorem dM_need_53 : decode b_M_need 53 = .ok (.iload_n 3, 1) := by decide +kernel
theorem dM_need_54 : decode b_M_need 54 = .ok (.iadd, 1) := by decide +kernel
theorem dM_need_55 : decode b_M_need 55 = .ok (.baload, 1) := by decide +kernel
theorem dM_need_56 : decode b_M_need 56 = .ok (.ifCond .eq 56, 3) := by decide +kernel
theorem dM_need_59 : decode b_M_need 59 = .ok (.aload_n 0, 1) := by decide +kernel
theorem dM_need_60 : decode b_M_need 60 = .ok (.getfield 7, 3) := by decide +kernel
theorem dM_need_63 : decode b_M_need 63 = .ok (.iload_n 3, 1) := by decide +kernel
theorem dM_need_64 : decode b_M_need 64 = .ok (.iaload, 1) := by decide +kernel
theorem dM_need_65 : decode b_M_need 65 = .ok (.iconst 2, 1) := by decide +kernel
theorem dM_need_66 : decode b_M_need 66 = .ok (.if_icmp .ge 6, 3) := by decide +kernel
theorem dM_need_69 : decode b_M_need 69 = .ok (.goto 43, 3) := by decide +kernel
theorem dM_need_72 : decode b_M_need 72 = .ok (.aload_n 0, 1) := by decide +kernel
theorem dM_need_73 : decode b_M_need 73 = .ok (.getfield 60, 3) := by decide +kernel
theorem dM_need_76 : decode b_M_need 76 = .ok (.iload_n 2, 1) := by decide +kernel
theorem dM_need_77 : decode b_M_need 77 = .ok (.aload_n 0, 1) := by decide +kernel
theorem dM_need_78 : decode b_M_need 78 = .ok (.getfield 13, 3) := by decide +kernel
theorem dM_need_81 : decode b_M_need 81 = .ok (.iload_n 3, 1) := by decide +kernel
theorem dM_need_82 : decode b_M_need 82 = .ok (.iaload, 1) := by decide +kernel
theorem dM_need_83 : decode b_M_need 83 = .ok (.iadd, 1) := by decide +kernel
theorem dM_need_84 : decode b_M_need 84 = .ok (.iconst 1, 1) := by decide +kernel
theorem dM_need_85 : decode b_M_need 85 = .ok (.bastore, 1) := by decide +kernel
theorem dM_need_86 : decode b_M_need 86 = .ok (.aload_n 0, 1) := by decide +kernel
theorem dM_need_87 : decode b_M_need 87 = .ok (.getfield 7, 3) := by decide +kernel
theorem dM_need_90 : decode b_M_need 90 = .ok (.iload_n 3, 1) := by decide +kernel
theorem dM_need_91 : decode b_M_need 91 = .ok (.iaload, 1) := by decide +kernel
theorem dM_need_92 : decode b_M_need 92 = .ok (.invokestatic 90, 3) := by decide +kernel
theorem dM_need_95 : decode b_M_need 95 = .ok (.ifCond .eq 17, 3) := by decide +kernel
theorem dM_need_98 : decode b_M_need 98 = .ok (.aload_n 0, 1) := by decide +kernel
theorem dM_need_99 : decode b_M_need 99 = .ok (.getfield 60, 3) := by decide +kernel
theorem dM_need_102 : decode b_M_need 102 = .ok (.iload_n 2, 1) := by decide +kernel
theorem dM_need_103 : decode b_M_need 103 = .ok (.aload_n 0, 1) := by decide +kernel
theorem dM_need_104 : decode b_M_need 104 = .ok (.getfield 16, 3) := by decide +kernel
theorem dM_need_107 : decode b_M_need 107 = .ok (.iload_n 3, 1) := by decide +kernel
theorem dM_need_108 : decode b_M_need 108 = .ok (.iaload, 1) := by decide +kernel
theorem dM_need_109 : decode b_M_need 109 = .ok (.iadd, 1) := by decide +kernel
theorem dM_need_110 : decode b_M_need 110 = .ok (.iconst 1, 1) := by decide +kernel
theorem dM_need_111 : decode b_M_need 111 = .ok (.bastore, 1) := by decide +kernel
theorem dM_need_112 : decode b_M_need 112 = .ok (.iinc 3 (-1), 3) := by decide +kernel
theorem dM_need_115 : decode b_M_need 115 = .ok (.goto (-71), 3) := by decide +kernel
theorem dM_need_118 : decode b_M_need 118 = .ok (.aload_n 0, 1) := by decide +kernel
theorem dM_need_119 : decode b_M_need 119 = .ok (.getfield 69, 3) := by decide +kernel
theorem dM_need_122 : decode b_M_need 122 = .ok (.aload_n 0, 1) := by decide +kernel
theorem dM_need_123 : decode b_M_need 123 = .ok (.getfield 143, 3) := by decide +kernel
theorem dM_need_126 : decode b_M_need 126 = .ok (.iconst 1, 1) := by decide +kernel
theorem dM_need_127 : decode b_M_need 127 = .ok (.isub, 1) := by decide +kernel
theorem dM_need_128 : decode b_M_need 128 = .ok (.iconst 0, 1) := by decide +kernel
theorem dM_need_129 : decode b_M_need 129 = .ok (.iastore, 1) := by decide +kernel
theorem dM_need_130 : decode b_M_need 130 = .ok (.return_, 1) := by decide +kernel
theorem dM_noExpression_0 : decode b_M_noExpression 0 = .ok (.iload_n 1, 1) := by decide +kernel
theorem dM_noExpression_1 : decode b_M_noExpression 1 = .ok (.aload_n 0, 1) := by decide +kernel
theorem dM_noExpression_2 : decode b_M_noExpression 2 = .ok (.getfield 75, 3) := by decide +kernel
theorem dM_noExpression_5 : decode b_M_noExpression 5 = .ok (.iconst 1, 1) := by decide +kernel
theorem dM_noExpression_6 : decode b_M_noExpression 6 = .ok (.isub, 1) := by decide +kernel
theorem dM_noExpression_7 : decode b_M_noExpression 7 = .ok (.invokestatic 79, 3) := by decide +kernel
theorem dM_noExpression_10 : decode b_M_noExpression 10 = .ok (.ireturn, 1) := by decide +kernel
theorem dM_noOwn_0 : decode b_M_noOwn 0 = .ok (.iload_n 1, 1) := by decide +kernel
theorem dM_noOwn_1 : decode b_M_noOwn 1 = .ok (.aload_n 0, 1) := by decide +kernel
theorem dM_noOwn_2 : decode b_M_noOwn 2 = .ok (.getfield 83, 3) := by decide +kernel
theorem dM_noOwn_5 : decode b_M_noOwn 5 = .ok (.iconst 1, 1) := by decide +kernel
theorem dM_noOwn_6 : decode b_M_noOwn 6 = .ok (.isub, 1) := by decide +kernel
theorem dM_noOwn_7 : decode b_M_noOwn 7 = .ok (.invokestatic 79, 3) := by decide +kernel
theorem dM_noOwn_10 : decode b_M_noOwn 10 = .ok (.ifCond .ne 12, 3) := by decide +kernel
theorem dM_noOwn_13 : decode b_M_noOwn 13 = .ok (.aload_n 0, 1) := by decide +kernel
theorem dM_noOwn_14 : decode b_M_noOwn 14 = .ok (.getfield 22, 3) := by decide +kernel
theorem dM_noOwn_17 : decode b_M_noOwn 17 = .ok (.iload_n 1, 1) := by decide +kernel
theorem dM_noOwn_18 : decode b_M_noOwn 18 = .ok (.iaload, 1) := by decide +kernel
theorem dM_noOwn_19 : decode b_M_noOwn 19 = .ok (.ifCond .lt 7, 3) := by decide +kernel
theorem dM_noOwn_22 : decode b_M_noOwn 22 = .ok (.iconst 1, 1) := by decide +kernel
theorem dM_noOwn_23 : decode b_M_noOwn 23 = .ok (.goto 4, 3) := by decide +kernel
theorem dM_noOwn_26 : decode b_M_noOwn 26 = .ok (.iconst 0, 1) := by decide +kernel
theorem dM_noOwn_27 : decode b_M_noOwn 27 = .ok (.ireturn, 1) := by decide +kernel
theorem dM_opens_0 : decode b_M_opens 0 = .ok (.iload_n 0, 1) := by decide +kernel
theorem dM_opens_1 : decode b_M_opens 1 = .ok (.iconst 2, 1) := by decide +kernel
theorem dM_opens_2 : decode b_M_opens 2 = .ok (.if_icmp .eq 8, 3) := by decide +kernel
theorem dM_opens_5 : decode b_M_opens 5 = .ok (.iload_n 0, 1) := by decide +kernel
theorem dM_opens_6 : decode b_M_opens 6 = .ok (.iconst 4, 1) := by decide +kernel
theorem dM_opens_7 : decode b_M_opens 7 = .ok (.if_icmp .ne 7, 3) := by decide +kernel
theorem dM_opens_10 : decode b_M_opens 10 = .ok (.iconst 1, 1) := by decide +kernel
theorem dM_opens_11 : decode b_M_opens 11 = .ok (.goto 4, 3) := by decide +kernel
theorem dM_opens_14 : decode b_M_opens 14 = .ok (.iconst 0, 1) := by decide +kernel
theorem dM_opens_15 : decode b_M_opens 15 = .ok (.ireturn, 1) := by decide +kernel
theorem dM_order_0 : decode b_M_order 0 = .ok (.iload_n 1, 1) := by decide +kernel
theorem dM_order_1 : decode b_M_order 1 = .ok (.aload_n 0, 1) := by decide +kernel
theorem dM_order_2 : decode b_M_order 2 = .ok (.getfield 83, 3) := by decide +kernel
theorem dM_order_5 : decode b_M_order 5 = .ok (.iconst 1, 1) := by decide +kernel
theorem dM_order_6 : decode b_M_order 6 = .ok (.isub, 1) := by decide +kernel
theorem dM_order_7 : decode b_M_order 7 = .ok (.invokestatic 79, 3) := by decide +kernel
theorem dM_order_10 : decode b_M_order 10 = .ok (.ifCond .eq 5, 3) := by decide +kernel
theorem dM_order_13 : decode b_M_order 13 = .ok (.iconst (-1), 1) := by decide +kernel
theorem dM_order_14 : decode b_M_order 14 = .ok (.ireturn, 1) := by decide +kernel
theorem dM_order_15 : decode b_M_order 15 = .ok (.iconst 0, 1) := by decide +kernel
theorem dM_order_16 : decode b_M_order 16 = .ok (.istore_n 2, 1) := by decide +kernel
theorem dM_order_17 : decode b_M_order 17 = .ok (.iload_n 1, 1) := by decide +kernel
theorem dM_order_18 : decode b_M_order 18 = .ok (.istore_n 3, 1) := by decide +kernel
theorem dM_order_19 : decode b_M_order 19 = .ok (.aload_n 0, 1) := by decide +kernel
theorem dM_order_20 : decode b_M_order 20 = .ok (.getfield 22, 3) := by decide +kernel
theorem dM_order_23 : decode b_M_order 23 = .ok (.iload_n 3, 1) := by decide +kernel
theorem dM_order_24 : decode b_M_order 24 = .ok (.iaload, 1) := by decide +kernel
theorem dM_order_25 : decode b_M_order 25 = .ok (.ifCond .lt 16, 3) := by decide +kernel
theorem dM_order_28 : decode b_M_order 28 = .ok (.iinc 2 1, 3) := by decide +kernel
theorem dM_order_31 : decode b_M_order 31 = .ok (.aload_n 0, 1) := by decide +kernel
theorem dM_order_32 : decode b_M_order 32 = .ok (.getfield 22, 3) := by decide +kernel
theorem dM_order_35 : decode b_M_order 35 = .ok (.iload_n 3, 1) := by decide +kernel
theorem dM_order_36 : decode b_M_order 36 = .ok (.iaload, 1) := by decide +kernel
theorem dM_order_37 : decode b_M_order 37 = .ok (.istore_n 3, 1) := by decide +kernel
theorem dM_order_38 : decode b_M_order 38 = .ok (.goto (-19), 3) := by decide +kernel
theorem dM_order_41 : decode b_M_order 41 = .ok (.iload_n 2, 1) := by decide +kernel
theorem dM_order_42 : decode b_M_order 42 = .ok (.ireturn, 1) := by decide +kernel
theorem dM_out_0 : decode b_M_out 0 = .ok (.iload_n 0, 1) := by decide +kernel
theorem dM_out_1 : decode b_M_out 1 = .ok (.ifCond .lt 8, 3) := by decide +kernel
theorem dM_out_4 : decode b_M_out 4 = .ok (.iload_n 0, 1) := by decide +kernel
theorem dM_out_5 : decode b_M_out 5 = .ok (.iload_n 1, 1) := by decide +kernel
theorem dM_out_6 : decode b_M_out 6 = .ok (.if_icmp .le 7, 3) := by decide +kernel
theorem dM_out_9 : decode b_M_out 9 = .ok (.iconst 1, 1) := by decide +kernel
theorem dM_out_10 : decode b_M_out 10 = .ok (.goto 4, 3) := by decide +kernel
theorem dM_out_13 : decode b_M_out 13 = .ok (.iconst 0, 1) := by decide +kernel
theorem dM_out_14 : decode b_M_out 14 = .ok (.ireturn, 1) := by decide +kernel
theorem dM_reach_0 : decode b_M_reach 0 = .ok (.iconst 0, 1) := by decide +kernel
theorem dM_reach_1 : decode b_M_reach 1 = .ok (.istore_n 2, 1) := by decide +kernel
theorem dM_reach_2 : decode b_M_reach 2 = .ok (.iload_n 2, 1) := by decide +kernel
theorem dM_reach_3 : decode b_M_reach 3 = .ok (.bipush 8, 2) := by decide +kernel
theorem dM_reach_5 : decode b_M_reach 5 = .ok (.if_icmp .ge 16, 3) := by decide +kernel
theorem dM_reach_8 : decode b_M_reach 8 = .ok (.aload_n 0, 1) := by decide +kernel
theorem dM_reach_9 : decode b_M_reach 9 = .ok (.getfield 50, 3) := by decide +kernel
theorem dM_reach_12 : decode b_M_reach 12 = .ok (.iload_n 2, 1) := by decide +kernel
theorem dM_reach_13 : decode b_M_reach 13 = .ok (.iconst 0, 1) := by decide +kernel
theorem dM_reach_14 : decode b_M_reach 14 = .ok (.bastore, 1) := by decide +kernel
theorem dM_reach_15 : decode b_M_reach 15 = .ok (.iinc 2 1, 3) := by decide +kernel
theorem dM_reach_18 : decode b_M_reach 18 = .ok (.goto (-16), 3) := by decide +kernel
theorem dM_reach_21 : decode b_M_reach 21 = .ok (.aload_n 0, 1) := by decide +kernel
theorem dM_reach_22 : decode b_M_reach 22 = .ok (.iload_n 1, 1) := by decide +kernel
theorem dM_reach_23 : decode b_M_reach 23 = .ok (.invokevirtual 114, 3) := by decide +kernel
theorem dM_reach_26 : decode b_M_reach 26 = .ok (.iconst 0, 1) := by decide +kernel
theorem dM_reach_27 : decode b_M_reach 27 = .ok (.istore_n 2, 1) := by decide +kernel
theorem dM_reach_28 : decode b_M_reach 28 = .ok (.iload_n 2, 1) := by decide +kernel
theorem dM_reach_29 : decode b_M_reach 29 = .ok (.bipush 8, 2) := by decide +kernel
theorem dM_reach_31 : decode b_M_reach 31 = .ok (.if_icmp .ge 37, 3) := by decide +kernel
theorem dM_reach_34 : decode b_M_reach 34 = .ok (.iconst 0, 1) := by decide +kernel
theorem dM_reach_35 : decode b_M_reach 35 = .ok (.istore_n 3, 1) := by decide +kernel
theorem dM_reach_36 : decode b_M_reach 36 = .ok (.iload_n 3, 1) := by decide +kernel
theorem dM_reach_37 : decode b_M_reach 37 = .ok (.bipush 8, 2) := by decide +kernel
theorem dM_reach_39 : decode b_M_reach 39 = .ok (.if_icmp .ge 23, 3) := by decide +kernel
theorem dM_reach_42 : decode b_M_reach 42 = .ok (.aload_n 0, 1) := by decide +kernel
theorem dM_reach_43 : decode b_M_reach 43 = .ok (.getfield 50, 3) := by decide +kernel
theorem dM_reach_46 : decode b_M_reach 46 = .ok (.iload_n 3, 1) := by decide +kernel
theorem dM_reach_47 : decode b_M_reach 47 = .ok (.baload, 1) := by decide +kernel
theorem dM_reach_48 : decode b_M_reach 48 = .ok (.ifCond .eq 8, 3) := by decide +kernel
theorem dM_reach_51 : decode b_M_reach 51 = .ok (.aload_n 0, 1) := by decide +kernel
theorem dM_reach_52 : decode b_M_reach 52 = .ok (.iload_n 3, 1) := by decide +kernel
theorem dM_reach_53 : decode b_M_reach 53 = .ok (.invokevirtual 114, 3) := by decide +kernel
theorem dM_reach_56 : decode b_M_reach 56 = .ok (.iinc 3 1, 3) := by decide +kernel
theorem dM_reach_59 : decode b_M_reach 59 = .ok (.goto (-23), 3) := by decide +kernel
theorem dM_reach_62 : decode b_M_reach 62 = .ok (.iinc 2 1, 3) := by decide +kernel
theorem dM_reach_65 : decode b_M_reach 65 = .ok (.goto (-37), 3) := by decide +kernel
theorem dM_reach_68 : decode b_M_reach 68 = .ok (.return_, 1) := by decide +kernel
theorem dM_run_0 : decode b_M_run 0 = .ok (.iload_n 1, 1) := by decide +kernel
theorem dM_run_1 : decode b_M_run 1 = .ok (.aload_n 0, 1) := by decide +kernel
theorem dM_run_2 : decode b_M_run 2 = .ok (.getfield 83, 3) := by decide +kernel
theorem dM_run_5 : decode b_M_run 5 = .ok (.iconst 1, 1) := by decide +kernel
theorem dM_run_6 : decode b_M_run 6 = .ok (.isub, 1) := by decide +kernel
theorem dM_run_7 : decode b_M_run 7 = .ok (.invokestatic 79, 3) := by decide +kernel
theorem dM_run_10 : decode b_M_run 10 = .ok (.ifCond .eq 7, 3) := by decide +kernel
theorem dM_run_13 : decode b_M_run 13 = .ok (.ldc2_w 201, 3) := by decide +kernel
theorem dM_run_16 : decode b_M_run 16 = .ok (.lreturn, 1) := by decide +kernel
theorem dM_run_17 : decode b_M_run 17 = .ok (.aload_n 0, 1) := by decide +kernel
theorem dM_run_18 : decode b_M_run 18 = .ok (.iload_n 1, 1) := by decide +kernel
theorem dM_run_19 : decode b_M_run 19 = .ok (.invokevirtual 96, 3) := by decide +kernel
theorem dM_run_22 : decode b_M_run 22 = .ok (.istore 6, 2) := by decide +kernel
theorem dM_run_24 : decode b_M_run 24 = .ok (.iload 6, 2) := by decide +kernel
theorem dM_run_26 : decode b_M_run 26 = .ok (.iconst 2, 1) := by decide +kernel
theorem dM_run_27 : decode b_M_run 27 = .ok (.if_icmp .ne 12, 3) := by decide +kernel
theorem dM_run_30 : decode b_M_run 30 = .ok (.aload_n 0, 1) := by decide +kernel
theorem dM_run_31 : decode b_M_run 31 = .ok (.getfield 22, 3) := by decide +kernel
theorem dM_run_34 : decode b_M_run 34 = .ok (.iload_n 1, 1) := by decide +kernel
theorem dM_run_35 : decode b_M_run 35 = .ok (.iaload, 1) := by decide +kernel
theorem dM_run_36 : decode b_M_run 36 = .ok (.goto 4, 3) := by decide +kernel
theorem dM_run_39 : decode b_M_run 39 = .ok (.iload_n 1, 1) := by decide +kernel
theorem dM_run_40 : decode b_M_run 40 = .ok (.istore 7, 2) := by decide +kernel
theorem dM_run_42 : decode b_M_run 42 = .ok (.iload 6, 2) := by decide +kernel
theorem dM_run_44 : decode b_M_run 44 = .ok (.ifCond .ne 7, 3) := by decide +kernel
theorem dM_run_47 : decode b_M_run 47 = .ok (.iload_n 1, 1) := by decide +kernel
theorem dM_run_48 : decode b_M_run 48 = .ok (.goto 10, 3) := by decide +kernel
theorem dM_run_51 : decode b_M_run 51 = .ok (.aload_n 0, 1) := by decide +kernel
theorem dM_run_52 : decode b_M_run 52 = .ok (.getfield 22, 3) := by decide +kernel
theorem dM_run_55 : decode b_M_run 55 = .ok (.iload 7, 2) := by decide +kernel
theorem dM_run_57 : decode b_M_run 57 = .ok (.iaload, 1) := by decide +kernel
theorem dM_run_58 : decode b_M_run 58 = .ok (.istore 8, 2) := by decide +kernel
theorem dM_run_60 : decode b_M_run 60 = .ok (.aload_n 0, 1) := by decide +kernel
theorem dM_run_61 : decode b_M_run 61 = .ok (.iload 8, 2) := by decide +kernel
theorem dM_run_63 : decode b_M_run 63 = .ok (.lload_n 2, 1) := by decide +kernel
theorem dM_run_64 : decode b_M_run 64 = .ok (.lload 4, 2) := by decide +kernel
theorem dM_run_66 : decode b_M_run 66 = .ok (.iload 6, 2) := by decide +kernel
theorem dM_run_68 : decode b_M_run 68 = .ok (.ifCond .ne 7, 3) := by decide +kernel
theorem dM_run_71 : decode b_M_run 71 = .ok (.iconst (-1), 1) := by decide +kernel
theorem dM_run_72 : decode b_M_run 72 = .ok (.goto 10, 3) := by decide +kernel
theorem dM_run_75 : decode b_M_run 75 = .ok (.aload_n 0, 1) := by decide +kernel
theorem dM_run_76 : decode b_M_run 76 = .ok (.getfield 25, 3) := by decide +kernel
theorem dM_run_79 : decode b_M_run 79 = .ok (.iload 7, 2) := by decide +kernel
theorem dM_run_81 : decode b_M_run 81 = .ok (.iaload, 1) := by decide +kernel
theorem dM_run_82 : decode b_M_run 82 = .ok (.iload 6, 2) := by decide +kernel
theorem dM_run_84 : decode b_M_run 84 = .ok (.iconst 2, 1) := by decide +kernel
theorem dM_run_85 : decode b_M_run 85 = .ok (.if_icmp .ne 12, 3) := by decide +kernel
theorem dM_run_88 : decode b_M_run 88 = .ok (.aload_n 0, 1) := by decide +kernel
theorem dM_run_89 : decode b_M_run 89 = .ok (.getfield 25, 3) := by decide +kernel
theorem dM_run_92 : decode b_M_run 92 = .ok (.iload_n 1, 1) := by decide +kernel
theorem dM_run_93 : decode b_M_run 93 = .ok (.iaload, 1) := by decide +kernel
theorem dM_run_94 : decode b_M_run 94 = .ok (.goto 4, 3) := by decide +kernel
theorem dM_run_97 : decode b_M_run 97 = .ok (.iconst (-1), 1) := by decide +kernel
theorem dM_run_98 : decode b_M_run 98 = .ok (.invokevirtual 203, 3) := by decide +kernel
theorem dM_run_101 : decode b_M_run 101 = .ok (.aload_n 0, 1) := by decide +kernel
theorem dM_run_102 : decode b_M_run 102 = .ok (.getfield 53, 3) := by decide +kernel
theorem dM_run_105 : decode b_M_run 105 = .ok (.iload 6, 2) := by decide +kernel
theorem dM_run_107 : decode b_M_run 107 = .ok (.iconst 2, 1) := by decide +kernel
theorem dM_run_108 : decode b_M_run 108 = .ok (.if_icmp .ne 7, 3) := by decide +kernel
theorem dM_run_111 : decode b_M_run 111 = .ok (.iconst 3, 1) := by decide +kernel
theorem dM_run_112 : decode b_M_run 112 = .ok (.goto 5, 3) := by decide +kernel
theorem dM_run_115 : decode b_M_run 115 = .ok (.iload 6, 2) := by decide +kernel
theorem dM_run_117 : decode b_M_run 117 = .ok (.laload, 1) := by decide +kernel
theorem dM_run_118 : decode b_M_run 118 = .ok (.lreturn, 1) := by decide +kernel
theorem dM_scale_0 : decode b_M_scale 0 = .ok (.iconst 0, 1) := by decide +kernel
theorem dM_scale_1 : decode b_M_scale 1 = .ok (.istore 5, 2) := by decide +kernel
theorem dM_scale_3 : decode b_M_scale 3 = .ok (.iload 5, 2) := by decide +kernel
theorem dM_scale_5 : decode b_M_scale 5 = .ok (.iconst 4, 1) := by decide +kernel
theorem dM_scale_6 : decode b_M_scale 6 = .ok (.if_icmp .ge 33, 3) := by decide +kernel
theorem dM_scale_9 : decode b_M_scale 9 = .ok (.aload_n 0, 1) := by decide +kernel
theorem dM_scale_10 : decode b_M_scale 10 = .ok (.getfield 57, 3) := by decide +kernel
theorem dM_scale_13 : decode b_M_scale 13 = .ok (.aload_n 0, 1) := by decide +kernel
theorem dM_scale_14 : decode b_M_scale 14 = .ok (.iload_n 1, 1) := by decide +kernel
theorem dM_scale_15 : decode b_M_scale 15 = .ok (.invokevirtual 146, 3) := by decide +kernel
theorem dM_scale_18 : decode b_M_scale 18 = .ok (.iload 5, 2) := by decide +kernel
theorem dM_scale_20 : decode b_M_scale 20 = .ok (.iadd, 1) := by decide +kernel
theorem dM_scale_21 : decode b_M_scale 21 = .ok (.aload_n 0, 1) := by decide +kernel
theorem dM_scale_22 : decode b_M_scale 22 = .ok (.getfield 57, 3) := by decide +kernel
theorem dM_scale_25 : decode b_M_scale 25 = .ok (.iload_n 2, 1) := by decide +kernel
theorem dM_scale_26 : decode b_M_scale 26 = .ok (.iload 5, 2) := by decide +kernel
theorem dM_scale_28 : decode b_M_scale 28 = .ok (.iadd, 1) := by decide +kernel
theorem dM_scale_29 : decode b_M_scale 29 = .ok (.laload, 1) := by decide +kernel
theorem dM_scale_30 : decode b_M_scale 30 = .ok (.lload_n 3, 1) := by decide +kernel
theorem dM_scale_31 : decode b_M_scale 31 = .ok (.lmul, 1) := by decide +kernel
theorem dM_scale_32 : decode b_M_scale 32 = .ok (.lastore, 1) := by decide +kernel
theorem dM_scale_33 : decode b_M_scale 33 = .ok (.iinc 5 1, 3) := by decide +kernel
theorem dM_scale_36 : decode b_M_scale 36 = .ok (.goto (-33), 3) := by decide +kernel
theorem dM_scale_39 : decode b_M_scale 39 = .ok (.return_, 1) := by decide +kernel
theorem dM_slot_0 : decode b_M_slot 0 = .ok (.bipush 56, 2) := by decide +kernel
theorem dM_slot_2 : decode b_M_slot 2 = .ok (.aload_n 0, 1) := by decide +kernel
theorem dM_slot_3 : decode b_M_slot 3 = .ok (.getfield 143, 3) := by decide +kernel
theorem dM_slot_6 : decode b_M_slot 6 = .ok (.iconst 1, 1) := by decide +kernel
theorem dM_slot_7 : decode b_M_slot 7 = .ok (.isub, 1) := by decide +kernel
theorem dM_slot_8 : decode b_M_slot 8 = .ok (.imul, 1) := by decide +kernel
theorem dM_slot_9 : decode b_M_slot 9 = .ok (.iconst 4, 1) := by decide +kernel
theorem dM_slot_10 : decode b_M_slot 10 = .ok (.iload_n 1, 1) := by decide +kernel
theorem dM_slot_11 : decode b_M_slot 11 = .ok (.imul, 1) := by decide +kernel
theorem dM_slot_12 : decode b_M_slot 12 = .ok (.iadd, 1) := by decide +kernel
theorem dM_slot_13 : decode b_M_slot 13 = .ok (.ireturn, 1) := by decide +kernel
theorem dM_start_0 : decode b_M_start 0 = .ok (.aload_n 0, 1) := by decide +kernel
theorem dM_start_1 : decode b_M_start 1 = .ok (.iconst 0, 1) := by decide +kernel
theorem dM_start_2 : decode b_M_start 2 = .ok (.putfield 143, 3) := by decide +kernel
theorem dM_start_5 : decode b_M_start 5 = .ok (.aload_n 0, 1) := by decide +kernel
theorem dM_start_6 : decode b_M_start 6 = .ok (.iload_n 1, 1) := by decide +kernel
theorem dM_start_7 : decode b_M_start 7 = .ok (.invokevirtual 176, 3) := by decide +kernel
theorem dM_start_10 : decode b_M_start 10 = .ok (.aload_n 0, 1) := by decide +kernel
theorem dM_start_11 : decode b_M_start 11 = .ok (.getfield 53, 3) := by decide +kernel
theorem dM_start_14 : decode b_M_start 14 = .ok (.iconst 0, 1) := by decide +kernel
theorem dM_start_15 : decode b_M_start 15 = .ok (.lload_n 2, 1) := by decide +kernel
theorem dM_start_16 : decode b_M_start 16 = .ok (.lastore, 1) := by decide +kernel
theorem dM_start_17 : decode b_M_start 17 = .ok (.aload_n 0, 1) := by decide +kernel
theorem dM_start_18 : decode b_M_start 18 = .ok (.getfield 53, 3) := by decide +kernel
theorem dM_start_21 : decode b_M_start 21 = .ok (.iconst 4, 1) := by decide +kernel
theorem dM_start_22 : decode b_M_start 22 = .ok (.lload 4, 2) := by decide +kernel
theorem dM_start_24 : decode b_M_start 24 = .ok (.lastore, 1) := by decide +kernel
theorem dM_start_25 : decode b_M_start 25 = .ok (.iload 6, 2) := by decide +kernel
theorem dM_start_27 : decode b_M_start 27 = .ok (.ifCond .lt 15, 3) := by decide +kernel
theorem dM_start_30 : decode b_M_start 30 = .ok (.aload_n 0, 1) := by decide +kernel
theorem dM_start_31 : decode b_M_start 31 = .ok (.getfield 53, 3) := by decide +kernel
theorem dM_start_34 : decode b_M_start 34 = .ok (.iconst 4, 1) := by decide +kernel
theorem dM_start_35 : decode b_M_start 35 = .ok (.iload 6, 2) := by decide +kernel
theorem dM_start_37 : decode b_M_start 37 = .ok (.imul, 1) := by decide +kernel
theorem dM_start_38 : decode b_M_start 38 = .ok (.iconst 1, 1) := by decide +kernel
theorem dM_start_39 : decode b_M_start 39 = .ok (.iadd, 1) := by decide +kernel
theorem dM_start_40 : decode b_M_start 40 = .ok (.lconst 1, 1) := by decide +kernel
theorem dM_start_41 : decode b_M_start 41 = .ok (.lastore, 1) := by decide +kernel
theorem dM_start_42 : decode b_M_start 42 = .ok (.iload 7, 2) := by decide +kernel
theorem dM_start_44 : decode b_M_start 44 = .ok (.ifCond .lt 15, 3) := by decide +kernel
theorem dM_start_47 : decode b_M_start 47 = .ok (.aload_n 0, 1) := by decide +kernel
theorem dM_start_48 : decode b_M_start 48 = .ok (.getfield 53, 3) := by decide +kernel
theorem dM_start_51 : decode b_M_start 51 = .ok (.iconst 4, 1) := by decide +kernel
theorem dM_start_52 : decode b_M_start 52 = .ok (.iload 7, 2) := by decide +kernel
theorem dM_start_54 : decode b_M_start 54 = .ok (.imul, 1) := by decide +kernel
theorem dM_start_55 : decode b_M_start 55 = .ok (.iconst 2, 1) := by decide +kernel
theorem dM_start_56 : decode b_M_start 56 = .ok (.iadd, 1) := by decide +kernel
theorem dM_start_57 : decode b_M_start 57 = .ok (.lconst 1, 1) := by decide +kernel
theorem dM_start_58 : decode b_M_start 58 = .ok (.lastore, 1) := by decide +kernel
theorem dM_start_59 : decode b_M_start 59 = .ok (.aload_n 0, 1) := by decide +kernel
theorem dM_start_60 : decode b_M_start 60 = .ok (.getfield 143, 3) := by decide +kernel
theorem dM_start_63 : decode b_M_start 63 = .ok (.ifCond .le 58, 3) := by decide +kernel
theorem dM_start_66 : decode b_M_start 66 = .ok (.aload_n 0, 1) := by decide +kernel
theorem dM_start_67 : decode b_M_start 67 = .ok (.getfield 63, 3) := by decide +kernel
theorem dM_start_70 : decode b_M_start 70 = .ok (.aload_n 0, 1) := by decide +kernel
theorem dM_start_71 : decode b_M_start 71 = .ok (.getfield 143, 3) := by decide +kernel
theorem dM_start_74 : decode b_M_start 74 = .ok (.iconst 1, 1) := by decide +kernel
theorem dM_start_75 : decode b_M_start 75 = .ok (.isub, 1) := by decide +kernel
theorem dM_start_76 : decode b_M_start 76 = .ok (.iaload, 1) := by decide +kernel
theorem dM_start_77 : decode b_M_start 77 = .ok (.istore 8, 2) := by decide +kernel
theorem dM_start_79 : decode b_M_start 79 = .ok (.aload_n 0, 1) := by decide +kernel
theorem dM_start_80 : decode b_M_start 80 = .ok (.getfield 66, 3) := by decide +kernel
theorem dM_start_83 : decode b_M_start 83 = .ok (.aload_n 0, 1) := by decide +kernel
theorem dM_start_84 : decode b_M_start 84 = .ok (.getfield 143, 3) := by decide +kernel
theorem dM_start_87 : decode b_M_start 87 = .ok (.iconst 1, 1) := by decide +kernel
theorem dM_start_88 : decode b_M_start 88 = .ok (.isub, 1) := by decide +kernel
theorem dM_start_89 : decode b_M_start 89 = .ok (.iaload, 1) := by decide +kernel
theorem dM_start_90 : decode b_M_start 90 = .ok (.aload_n 0, 1) := by decide +kernel
theorem dM_start_91 : decode b_M_start 91 = .ok (.getfield 37, 3) := by decide +kernel
theorem dM_start_94 : decode b_M_start 94 = .ok (.iload 8, 2) := by decide +kernel
theorem dM_start_96 : decode b_M_start 96 = .ok (.iaload, 1) := by decide +kernel
theorem dM_start_97 : decode b_M_start 97 = .ok (.aload_n 0, 1) := by decide +kernel
theorem dM_start_98 : decode b_M_start 98 = .ok (.iload 8, 2) := by decide +kernel
theorem dM_start_100 : decode b_M_start 100 = .ok (.invokevirtual 192, 3) := by decide +kernel
theorem dM_start_103 : decode b_M_start 103 = .ok (.iadd, 1) := by decide +kernel
theorem dM_start_104 : decode b_M_start 104 = .ok (.if_icmp .lt 10, 3) := by decide +kernel
theorem dM_start_107 : decode b_M_start 107 = .ok (.aload_n 0, 1) := by decide +kernel
theorem dM_start_108 : decode b_M_start 108 = .ok (.invokevirtual 195, 3) := by decide +kernel
theorem dM_start_111 : decode b_M_start 111 = .ok (.goto 7, 3) := by decide +kernel
theorem dM_start_114 : decode b_M_start 114 = .ok (.aload_n 0, 1) := by decide +kernel
theorem dM_start_115 : decode b_M_start 115 = .ok (.invokevirtual 198, 3) := by decide +kernel
theorem dM_start_118 : decode b_M_start 118 = .ok (.goto (-59), 3) := by decide +kernel
theorem dM_start_121 : decode b_M_start 121 = .ok (.return_, 1) := by decide +kernel
theorem dM_statement_0 : decode b_M_statement 0 = .ok (.aload_n 0, 1) := by decide +kernel
theorem dM_statement_1 : decode b_M_statement 1 = .ok (.iload_n 1, 1) := by decide +kernel
theorem dM_statement_2 : decode b_M_statement 2 = .ok (.invokevirtual 93, 3) := by decide +kernel
theorem dM_statement_5 : decode b_M_statement 5 = .ok (.ifCond .ne 36, 3) := by decide +kernel
theorem dM_statement_8 : decode b_M_statement 8 = .ok (.iload_n 2, 1) := by decide +kernel
theorem dM_statement_9 : decode b_M_statement 9 = .ok (.iconst 5, 1) := by decide +kernel
theorem dM_statement_10 : decode b_M_statement 10 = .ok (.invokestatic 79, 3) := by decide +kernel
theorem dM_statement_13 : decode b_M_statement 13 = .ok (.ifCond .ne 28, 3) := by decide +kernel
theorem dM_statement_16 : decode b_M_statement 16 = .ok (.iload_n 2, 1) := by decide +kernel
theorem dM_statement_17 : decode b_M_statement 17 = .ok (.ifCond .ne 11, 3) := by decide +kernel
theorem dM_statement_20 : decode b_M_statement 20 = .ok (.iload_n 3, 1) := by decide +kernel
theorem dM_statement_21 : decode b_M_statement 21 = .ok (.iconst 5, 1) := by decide +kernel
theorem dM_statement_22 : decode b_M_statement 22 = .ok (.invokestatic 79, 3) := by decide +kernel
theorem dM_statement_25 : decode b_M_statement 25 = .ok (.ifCond .ne 16, 3) := by decide +kernel
theorem dM_statement_28 : decode b_M_statement 28 = .ok (.iload_n 2, 1) := by decide +kernel
theorem dM_statement_29 : decode b_M_statement 29 = .ok (.iconst 1, 1) := by decide +kernel
theorem dM_statement_30 : decode b_M_statement 30 = .ok (.if_icmp .ne 13, 3) := by decide +kernel
theorem dM_statement_33 : decode b_M_statement 33 = .ok (.iload_n 3, 1) := by decide +kernel
theorem dM_statement_34 : decode b_M_statement 34 = .ok (.iconst 1, 1) := by decide +kernel
theorem dM_statement_35 : decode b_M_statement 35 = .ok (.invokestatic 79, 3) := by decide +kernel
theorem dM_statement_38 : decode b_M_statement 38 = .ok (.ifCond .eq 5, 3) := by decide +kernel
theorem dM_statement_41 : decode b_M_statement 41 = .ok (.iconst (-1), 1) := by decide +kernel
theorem dM_statement_42 : decode b_M_statement 42 = .ok (.ireturn, 1) := by decide +kernel
theorem dM_statement_43 : decode b_M_statement 43 = .ok (.iload_n 2, 1) := by decide +kernel
theorem dM_statement_44 : decode b_M_statement 44 = .ok (.invokestatic 118, 3) := by decide +kernel
theorem dM_statement_47 : decode b_M_statement 47 = .ok (.ifCond .eq 12, 3) := by decide +kernel
theorem dM_statement_50 : decode b_M_statement 50 = .ok (.aload_n 0, 1) := by decide +kernel
theorem dM_statement_51 : decode b_M_statement 51 = .ok (.iload 4, 2) := by decide +kernel
theorem dM_statement_53 : decode b_M_statement 53 = .ok (.invokevirtual 86, 3) := by decide +kernel
theorem dM_statement_56 : decode b_M_statement 56 = .ok (.ifCond .ne 20, 3) := by decide +kernel
theorem dM_statement_59 : decode b_M_statement 59 = .ok (.iload_n 2, 1) := by decide +kernel
theorem dM_statement_60 : decode b_M_statement 60 = .ok (.iconst 4, 1) := by decide +kernel
theorem dM_statement_61 : decode b_M_statement 61 = .ok (.if_icmp .ne 17, 3) := by decide +kernel
theorem dM_statement_64 : decode b_M_statement 64 = .ok (.iload 4, 2) := by decide +kernel
theorem dM_statement_66 : decode b_M_statement 66 = .ok (.iconst 1, 1) := by decide +kernel
theorem dM_statement_67 : decode b_M_statement 67 = .ok (.if_icmp .lt 9, 3) := by decide +kernel
theorem dM_statement_70 : decode b_M_statement 70 = .ok (.iload 4, 2) := by decide +kernel
theorem dM_statement_72 : decode b_M_statement 72 = .ok (.iconst 5, 1) := by decide +kernel
theorem dM_statement_73 : decode b_M_statement 73 = .ok (.if_icmp .le 5, 3) := by decide +kernel
theorem dM_statement_76 : decode b_M_statement 76 = .ok (.iconst (-1), 1) := by decide +kernel
theorem dM_statement_77 : decode b_M_statement 77 = .ok (.ireturn, 1) := by decide +kernel
theorem dM_statement_78 : decode b_M_statement 78 = .ok (.aload_n 0, 1) := by decide +kernel
theorem dM_statement_79 : decode b_M_statement 79 = .ok (.getfield 37, 3) := by decide +kernel
theorem dM_statement_82 : decode b_M_statement 82 = .ok (.iload_n 1, 1) := by decide +kernel
theorem dM_statement_83 : decode b_M_statement 83 = .ok (.iaload, 1) := by decide +kernel
theorem dM_statement_84 : decode b_M_statement 84 = .ok (.bipush 12, 2) := by decide +kernel
theorem dM_statement_86 : decode b_M_statement 86 = .ok (.if_icmp .eq 12, 3) := by decide +kernel
theorem dM_statement_89 : decode b_M_statement 89 = .ok (.aload_n 0, 1) := by decide +kernel
theorem dM_statement_90 : decode b_M_statement 90 = .ok (.iload_n 1, 1) := by decide +kernel
theorem dM_statement_91 : decode b_M_statement 91 = .ok (.iload_n 2, 1) := by decide +kernel
theorem dM_statement_92 : decode b_M_statement 92 = .ok (.invokevirtual 133, 3) := by decide +kernel
theorem dM_statement_95 : decode b_M_statement 95 = .ok (.ifCond .eq 5, 3) := by decide +kernel
theorem dM_statement_98 : decode b_M_statement 98 = .ok (.iconst (-1), 1) := by decide +kernel
theorem dM_statement_99 : decode b_M_statement 99 = .ok (.ireturn, 1) := by decide +kernel
theorem dM_statement_100 : decode b_M_statement 100 = .ok (.bipush 12, 2) := by decide +kernel
theorem dM_statement_102 : decode b_M_statement 102 = .ok (.iload_n 1, 1) := by decide +kernel
theorem dM_statement_103 : decode b_M_statement 103 = .ok (.imul, 1) := by decide +kernel
theorem dM_statement_104 : decode b_M_statement 104 = .ok (.aload_n 0, 1) := by decide +kernel
theorem dM_statement_105 : decode b_M_statement 105 = .ok (.getfield 37, 3) := by decide +kernel
theorem dM_statement_108 : decode b_M_statement 108 = .ok (.iload_n 1, 1) := by decide +kernel
theorem dM_statement_109 : decode b_M_statement 109 = .ok (.iaload, 1) := by decide +kernel
theorem dM_statement_110 : decode b_M_statement 110 = .ok (.iadd, 1) := by decide +kernel
theorem dM_statement_111 : decode b_M_statement 111 = .ok (.istore 5, 2) := by decide +kernel
theorem dM_statement_113 : decode b_M_statement 113 = .ok (.aload_n 0, 1) := by decide +kernel
theorem dM_statement_114 : decode b_M_statement 114 = .ok (.getfield 28, 3) := by decide +kernel
theorem dM_statement_117 : decode b_M_statement 117 = .ok (.iload 5, 2) := by decide +kernel
theorem dM_statement_119 : decode b_M_statement 119 = .ok (.iload_n 2, 1) := by decide +kernel
theorem dM_statement_120 : decode b_M_statement 120 = .ok (.iastore, 1) := by decide +kernel
theorem dM_statement_121 : decode b_M_statement 121 = .ok (.aload_n 0, 1) := by decide +kernel
theorem dM_statement_122 : decode b_M_statement 122 = .ok (.getfield 31, 3) := by decide +kernel
theorem dM_statement_125 : decode b_M_statement 125 = .ok (.iload 5, 2) := by decide +kernel
theorem dM_statement_127 : decode b_M_statement 127 = .ok (.iload_n 3, 1) := by decide +kernel
theorem dM_statement_128 : decode b_M_statement 128 = .ok (.iastore, 1) := by decide +kernel
theorem dM_statement_129 : decode b_M_statement 129 = .ok (.aload_n 0, 1) := by decide +kernel
theorem dM_statement_130 : decode b_M_statement 130 = .ok (.getfield 34, 3) := by decide +kernel
theorem dM_statement_133 : decode b_M_statement 133 = .ok (.iload 5, 2) := by decide +kernel
theorem dM_statement_135 : decode b_M_statement 135 = .ok (.iload 4, 2) := by decide +kernel
theorem dM_statement_137 : decode b_M_statement 137 = .ok (.iastore, 1) := by decide +kernel
theorem dM_statement_138 : decode b_M_statement 138 = .ok (.aload_n 0, 1) := by decide +kernel
theorem dM_statement_139 : decode b_M_statement 139 = .ok (.getfield 37, 3) := by decide +kernel
theorem dM_statement_142 : decode b_M_statement 142 = .ok (.iload_n 1, 1) := by decide +kernel
theorem dM_statement_143 : decode b_M_statement 143 = .ok (.dup2, 1) := by decide +kernel
theorem dM_statement_144 : decode b_M_statement 144 = .ok (.iaload, 1) := by decide +kernel
theorem dM_statement_145 : decode b_M_statement 145 = .ok (.iconst 1, 1) := by decide +kernel
theorem dM_statement_146 : decode b_M_statement 146 = .ok (.iadd, 1) := by decide +kernel
theorem dM_statement_147 : decode b_M_statement 147 = .ok (.iastore, 1) := by decide +kernel
theorem dM_statement_148 : decode b_M_statement 148 = .ok (.aload_n 0, 1) := by decide +kernel
theorem dM_statement_149 : decode b_M_statement 149 = .ok (.iload_n 1, 1) := by decide +kernel
theorem dM_statement_150 : decode b_M_statement 150 = .ok (.invokevirtual 136, 3) := by decide +kernel
theorem dM_statement_153 : decode b_M_statement 153 = .ok (.aload_n 0, 1) := by decide +kernel
theorem dM_statement_154 : decode b_M_statement 154 = .ok (.getfield 50, 3) := by decide +kernel
theorem dM_statement_157 : decode b_M_statement 157 = .ok (.iload_n 1, 1) := by decide +kernel
theorem dM_statement_158 : decode b_M_statement 158 = .ok (.baload, 1) := by decide +kernel
theorem dM_statement_159 : decode b_M_statement 159 = .ok (.istore 6, 2) := by decide +kernel
theorem dM_statement_161 : decode b_M_statement 161 = .ok (.iload 6, 2) := by decide +kernel
theorem dM_statement_163 : decode b_M_statement 163 = .ok (.ifCond .ne 17, 3) := by decide +kernel
theorem dM_statement_166 : decode b_M_statement 166 = .ok (.aload_n 0, 1) := by decide +kernel
theorem dM_statement_167 : decode b_M_statement 167 = .ok (.invokevirtual 139, 3) := by decide +kernel
theorem dM_statement_170 : decode b_M_statement 170 = .ok (.ifCond .ne 10, 3) := by decide +kernel
theorem dM_statement_173 : decode b_M_statement 173 = .ok (.aload_n 0, 1) := by decide +kernel
theorem dM_statement_174 : decode b_M_statement 174 = .ok (.getfield 37, 3) := by decide +kernel
theorem dM_statement_177 : decode b_M_statement 177 = .ok (.iload_n 1, 1) := by decide +kernel
theorem dM_statement_178 : decode b_M_statement 178 = .ok (.iaload, 1) := by decide +kernel
theorem dM_statement_179 : decode b_M_statement 179 = .ok (.ireturn, 1) := by decide +kernel
theorem dM_statement_180 : decode b_M_statement 180 = .ok (.aload_n 0, 1) := by decide +kernel
theorem dM_statement_181 : decode b_M_statement 181 = .ok (.getfield 37, 3) := by decide +kernel
theorem dM_statement_184 : decode b_M_statement 184 = .ok (.iload_n 1, 1) := by decide +kernel
theorem dM_statement_185 : decode b_M_statement 185 = .ok (.dup2, 1) := by decide +kernel
theorem dM_statement_186 : decode b_M_statement 186 = .ok (.iaload, 1) := by decide +kernel
theorem dM_statement_187 : decode b_M_statement 187 = .ok (.iconst 1, 1) := by decide +kernel
theorem dM_statement_188 : decode b_M_statement 188 = .ok (.isub, 1) := by decide +kernel
theorem dM_statement_189 : decode b_M_statement 189 = .ok (.iastore, 1) := by decide +kernel
theorem dM_statement_190 : decode b_M_statement 190 = .ok (.iconst (-1), 1) := by decide +kernel
theorem dM_statement_191 : decode b_M_statement 191 = .ok (.ireturn, 1) := by decide +kernel
theorem dM_step_0 : decode b_M_step 0 = .ok (.aload_n 0, 1) := by decide +kernel
theorem dM_step_1 : decode b_M_step 1 = .ok (.getfield 143, 3) := by decide +kernel
theorem dM_step_4 : decode b_M_step 4 = .ok (.iconst 1, 1) := by decide +kernel
theorem dM_step_5 : decode b_M_step 5 = .ok (.isub, 1) := by decide +kernel
theorem dM_step_6 : decode b_M_step 6 = .ok (.istore_n 1, 1) := by decide +kernel
theorem dM_step_7 : decode b_M_step 7 = .ok (.aload_n 0, 1) := by decide +kernel
theorem dM_step_8 : decode b_M_step 8 = .ok (.getfield 63, 3) := by decide +kernel
theorem dM_step_11 : decode b_M_step 11 = .ok (.iload_n 1, 1) := by decide +kernel
theorem dM_step_12 : decode b_M_step 12 = .ok (.iaload, 1) := by decide +kernel
theorem dM_step_13 : decode b_M_step 13 = .ok (.istore_n 2, 1) := by decide +kernel
theorem dM_step_14 : decode b_M_step 14 = .ok (.aload_n 0, 1) := by decide +kernel
theorem dM_step_15 : decode b_M_step 15 = .ok (.getfield 66, 3) := by decide +kernel
theorem dM_step_18 : decode b_M_step 18 = .ok (.iload_n 1, 1) := by decide +kernel
theorem dM_step_19 : decode b_M_step 19 = .ok (.iaload, 1) := by decide +kernel
theorem dM_step_20 : decode b_M_step 20 = .ok (.istore_n 3, 1) := by decide +kernel
theorem dM_step_21 : decode b_M_step 21 = .ok (.aload_n 0, 1) := by decide +kernel
theorem dM_step_22 : decode b_M_step 22 = .ok (.iload_n 2, 1) := by decide +kernel
theorem dM_step_23 : decode b_M_step 23 = .ok (.iload_n 3, 1) := by decide +kernel
theorem dM_step_24 : decode b_M_step 24 = .ok (.invokevirtual 100, 3) := by decide +kernel
theorem dM_step_27 : decode b_M_step 27 = .ok (.istore 4, 2) := by decide +kernel
theorem dM_step_29 : decode b_M_step 29 = .ok (.iload_n 3, 1) := by decide +kernel
theorem dM_step_30 : decode b_M_step 30 = .ok (.aload_n 0, 1) := by decide +kernel
theorem dM_step_31 : decode b_M_step 31 = .ok (.getfield 37, 3) := by decide +kernel
theorem dM_step_34 : decode b_M_step 34 = .ok (.iload_n 2, 1) := by decide +kernel
theorem dM_step_35 : decode b_M_step 35 = .ok (.iaload, 1) := by decide +kernel
theorem dM_step_36 : decode b_M_step 36 = .ok (.if_icmp .ge 17, 3) := by decide +kernel
theorem dM_step_39 : decode b_M_step 39 = .ok (.aload_n 0, 1) := by decide +kernel
theorem dM_step_40 : decode b_M_step 40 = .ok (.getfield 34, 3) := by decide +kernel
theorem dM_step_43 : decode b_M_step 43 = .ok (.bipush 12, 2) := by decide +kernel
theorem dM_step_45 : decode b_M_step 45 = .ok (.iload_n 2, 1) := by decide +kernel
theorem dM_step_46 : decode b_M_step 46 = .ok (.imul, 1) := by decide +kernel
theorem dM_step_47 : decode b_M_step 47 = .ok (.iload_n 3, 1) := by decide +kernel
theorem dM_step_48 : decode b_M_step 48 = .ok (.iadd, 1) := by decide +kernel
theorem dM_step_49 : decode b_M_step 49 = .ok (.iaload, 1) := by decide +kernel
theorem dM_step_50 : decode b_M_step 50 = .ok (.goto 4, 3) := by decide +kernel
theorem dM_step_53 : decode b_M_step 53 = .ok (.iconst 0, 1) := by decide +kernel
theorem dM_step_54 : decode b_M_step 54 = .ok (.istore 5, 2) := by decide +kernel
theorem dM_step_56 : decode b_M_step 56 = .ok (.iload 4, 2) := by decide +kernel
theorem dM_step_58 : decode b_M_step 58 = .ok (.invokestatic 118, 3) := by decide +kernel
theorem dM_step_61 : decode b_M_step 61 = .ok (.ifCond .eq 13, 3) := by decide +kernel
theorem dM_step_64 : decode b_M_step 64 = .ok (.aload_n 0, 1) := by decide +kernel
theorem dM_step_65 : decode b_M_step 65 = .ok (.iload 5, 2) := by decide +kernel
theorem dM_step_67 : decode b_M_step 67 = .ok (.invokevirtual 185, 3) := by decide +kernel
theorem dM_step_70 : decode b_M_step 70 = .ok (.ifCond .ne 4, 3) := by decide +kernel
theorem dM_step_73 : decode b_M_step 73 = .ok (.return_, 1) := by decide +kernel
theorem dM_step_74 : decode b_M_step 74 = .ok (.aload_n 0, 1) := by decide +kernel
theorem dM_step_75 : decode b_M_step 75 = .ok (.getfield 66, 3) := by decide +kernel
theorem dM_step_78 : decode b_M_step 78 = .ok (.iload_n 1, 1) := by decide +kernel
theorem dM_step_79 : decode b_M_step 79 = .ok (.iload_n 3, 1) := by decide +kernel
theorem dM_step_80 : decode b_M_step 80 = .ok (.iconst 1, 1) := by decide +kernel
theorem dM_step_81 : decode b_M_step 81 = .ok (.iadd, 1) := by decide +kernel
theorem dM_step_82 : decode b_M_step 82 = .ok (.iastore, 1) := by decide +kernel
theorem dM_step_83 : decode b_M_step 83 = .ok (.iload 4, 2) := by decide +kernel
theorem dM_step_85 : decode b_M_step 85 = .ok (.ifCond .ne 23, 3) := by decide +kernel
theorem dM_step_88 : decode b_M_step 88 = .ok (.aload_n 0, 1) := by decide +kernel
theorem dM_step_89 : decode b_M_step 89 = .ok (.aload_n 0, 1) := by decide +kernel
theorem dM_step_90 : decode b_M_step 90 = .ok (.getfield 31, 3) := by decide +kernel
theorem dM_step_93 : decode b_M_step 93 = .ok (.bipush 12, 2) := by decide +kernel
theorem dM_step_95 : decode b_M_step 95 = .ok (.iload_n 2, 1) := by decide +kernel
theorem dM_step_96 : decode b_M_step 96 = .ok (.imul, 1) := by decide +kernel
theorem dM_step_97 : decode b_M_step 97 = .ok (.iload_n 3, 1) := by decide +kernel
theorem dM_step_98 : decode b_M_step 98 = .ok (.iadd, 1) := by decide +kernel
theorem dM_step_99 : decode b_M_step 99 = .ok (.iaload, 1) := by decide +kernel
theorem dM_step_100 : decode b_M_step 100 = .ok (.iload 5, 2) := by decide +kernel
theorem dM_step_102 : decode b_M_step 102 = .ok (.invokevirtual 188, 3) := by decide +kernel
theorem dM_step_105 : decode b_M_step 105 = .ok (.goto 200, 3) := by decide +kernel
theorem dM_step_108 : decode b_M_step 108 = .ok (.iload 4, 2) := by decide +kernel
theorem dM_step_110 : decode b_M_step 110 = .ok (.iconst 1, 1) := by decide +kernel
theorem dM_step_111 : decode b_M_step 111 = .ok (.if_icmp .ne 44, 3) := by decide +kernel
theorem dM_step_114 : decode b_M_step 114 = .ok (.aload_n 0, 1) := by decide +kernel
theorem dM_step_115 : decode b_M_step 115 = .ok (.bipush 6, 2) := by decide +kernel
theorem dM_step_117 : decode b_M_step 117 = .ok (.iconst 4, 1) := by decide +kernel
theorem dM_step_118 : decode b_M_step 118 = .ok (.aload_n 0, 1) := by decide +kernel
theorem dM_step_119 : decode b_M_step 119 = .ok (.getfield 31, 3) := by decide +kernel
theorem dM_step_122 : decode b_M_step 122 = .ok (.bipush 12, 2) := by decide +kernel
theorem dM_step_124 : decode b_M_step 124 = .ok (.iload_n 2, 1) := by decide +kernel
theorem dM_step_125 : decode b_M_step 125 = .ok (.imul, 1) := by decide +kernel
theorem dM_step_126 : decode b_M_step 126 = .ok (.iload_n 3, 1) := by decide +kernel
theorem dM_step_127 : decode b_M_step 127 = .ok (.iadd, 1) := by decide +kernel
theorem dM_step_128 : decode b_M_step 128 = .ok (.iaload, 1) := by decide +kernel
theorem dM_step_129 : decode b_M_step 129 = .ok (.imul, 1) := by decide +kernel
theorem dM_step_130 : decode b_M_step 130 = .ok (.iadd, 1) := by decide +kernel
theorem dM_step_131 : decode b_M_step 131 = .ok (.aload_n 0, 1) := by decide +kernel
theorem dM_step_132 : decode b_M_step 132 = .ok (.getfield 53, 3) := by decide +kernel
theorem dM_step_135 : decode b_M_step 135 = .ok (.aload_n 0, 1) := by decide +kernel
theorem dM_step_136 : decode b_M_step 136 = .ok (.iconst 5, 1) := by decide +kernel
theorem dM_step_137 : decode b_M_step 137 = .ok (.invokevirtual 153, 3) := by decide +kernel
theorem dM_step_140 : decode b_M_step 140 = .ok (.laload, 1) := by decide +kernel
theorem dM_step_141 : decode b_M_step 141 = .ok (.ldc2_w 174, 3) := by decide +kernel
theorem dM_step_144 : decode b_M_step 144 = .ok (.land, 1) := by decide +kernel
theorem dM_step_145 : decode b_M_step 145 = .ok (.l2i, 1) := by decide +kernel
theorem dM_step_146 : decode b_M_step 146 = .ok (.iadd, 1) := by decide +kernel
theorem dM_step_147 : decode b_M_step 147 = .ok (.iload 5, 2) := by decide +kernel
theorem dM_step_149 : decode b_M_step 149 = .ok (.invokevirtual 188, 3) := by decide +kernel
theorem dM_step_152 : decode b_M_step 152 = .ok (.goto 153, 3) := by decide +kernel
theorem dM_step_155 : decode b_M_step 155 = .ok (.iload 4, 2) := by decide +kernel
theorem dM_step_157 : decode b_M_step 157 = .ok (.iconst 2, 1) := by decide +kernel
theorem dM_step_158 : decode b_M_step 158 = .ok (.if_icmp .ne 37, 3) := by decide +kernel
theorem dM_step_161 : decode b_M_step 161 = .ok (.aload_n 0, 1) := by decide +kernel
theorem dM_step_162 : decode b_M_step 162 = .ok (.getfield 57, 3) := by decide +kernel
theorem dM_step_165 : decode b_M_step 165 = .ok (.aload_n 0, 1) := by decide +kernel
theorem dM_step_166 : decode b_M_step 166 = .ok (.iload 5, 2) := by decide +kernel
theorem dM_step_168 : decode b_M_step 168 = .ok (.invokevirtual 146, 3) := by decide +kernel
theorem dM_step_171 : decode b_M_step 171 = .ok (.laload, 1) := by decide +kernel
theorem dM_step_172 : decode b_M_step 172 = .ok (.lconst 0, 1) := by decide +kernel
theorem dM_step_173 : decode b_M_step 173 = .ok (.lcmp, 1) := by decide +kernel
theorem dM_step_174 : decode b_M_step 174 = .ok (.ifCond .gt 131, 3) := by decide +kernel
theorem dM_step_177 : decode b_M_step 177 = .ok (.aload_n 0, 1) := by decide +kernel
theorem dM_step_178 : decode b_M_step 178 = .ok (.getfield 66, 3) := by decide +kernel
theorem dM_step_181 : decode b_M_step 181 = .ok (.iload_n 1, 1) := by decide +kernel
theorem dM_step_182 : decode b_M_step 182 = .ok (.aload_n 0, 1) := by decide +kernel
theorem dM_step_183 : decode b_M_step 183 = .ok (.iload_n 2, 1) := by decide +kernel
theorem dM_step_184 : decode b_M_step 184 = .ok (.iload_n 3, 1) := by decide +kernel
theorem dM_step_185 : decode b_M_step 185 = .ok (.iconst 1, 1) := by decide +kernel
theorem dM_step_186 : decode b_M_step 186 = .ok (.invokevirtual 110, 3) := by decide +kernel
theorem dM_step_189 : decode b_M_step 189 = .ok (.iconst 1, 1) := by decide +kernel
theorem dM_step_190 : decode b_M_step 190 = .ok (.iadd, 1) := by decide +kernel
theorem dM_step_191 : decode b_M_step 191 = .ok (.iastore, 1) := by decide +kernel
theorem dM_step_192 : decode b_M_step 192 = .ok (.goto 113, 3) := by decide +kernel
theorem dM_step_195 : decode b_M_step 195 = .ok (.iload 4, 2) := by decide +kernel
theorem dM_step_197 : decode b_M_step 197 = .ok (.iconst 3, 1) := by decide +kernel
theorem dM_step_198 : decode b_M_step 198 = .ok (.if_icmp .ne 24, 3) := by decide +kernel
theorem dM_step_201 : decode b_M_step 201 = .ok (.aload_n 0, 1) := by decide +kernel
theorem dM_step_202 : decode b_M_step 202 = .ok (.getfield 66, 3) := by decide +kernel
theorem dM_step_205 : decode b_M_step 205 = .ok (.iload_n 1, 1) := by decide +kernel
theorem dM_step_206 : decode b_M_step 206 = .ok (.aload_n 0, 1) := by decide +kernel
theorem dM_step_207 : decode b_M_step 207 = .ok (.iload_n 2, 1) := by decide +kernel
theorem dM_step_208 : decode b_M_step 208 = .ok (.aload_n 0, 1) := by decide +kernel
theorem dM_step_209 : decode b_M_step 209 = .ok (.iload_n 2, 1) := by decide +kernel
theorem dM_step_210 : decode b_M_step 210 = .ok (.iload_n 3, 1) := by decide +kernel
theorem dM_step_211 : decode b_M_step 211 = .ok (.invokevirtual 107, 3) := by decide +kernel
theorem dM_step_214 : decode b_M_step 214 = .ok (.iconst 0, 1) := by decide +kernel
theorem dM_step_215 : decode b_M_step 215 = .ok (.invokevirtual 110, 3) := by decide +kernel
theorem dM_step_218 : decode b_M_step 218 = .ok (.iastore, 1) := by decide +kernel
theorem dM_step_219 : decode b_M_step 219 = .ok (.goto 86, 3) := by decide +kernel
theorem dM_step_222 : decode b_M_step 222 = .ok (.iload 4, 2) := by decide +kernel
theorem dM_step_224 : decode b_M_step 224 = .ok (.iconst 4, 1) := by decide +kernel
theorem dM_step_225 : decode b_M_step 225 = .ok (.if_icmp .ne 19, 3) := by decide +kernel
theorem dM_step_228 : decode b_M_step 228 = .ok (.aload_n 0, 1) := by decide +kernel
theorem dM_step_229 : decode b_M_step 229 = .ok (.getfield 72, 3) := by decide +kernel
theorem dM_step_232 : decode b_M_step 232 = .ok (.bipush 24, 2) := by decide +kernel
theorem dM_step_234 : decode b_M_step 234 = .ok (.iload_n 1, 1) := by decide +kernel
theorem dM_step_235 : decode b_M_step 235 = .ok (.imul, 1) := by decide +kernel
theorem dM_step_236 : decode b_M_step 236 = .ok (.iload_n 3, 1) := by decide +kernel
theorem dM_step_237 : decode b_M_step 237 = .ok (.iadd, 1) := by decide +kernel
theorem dM_step_238 : decode b_M_step 238 = .ok (.iload 5, 2) := by decide +kernel
theorem dM_step_240 : decode b_M_step 240 = .ok (.iastore, 1) := by decide +kernel
theorem dM_step_241 : decode b_M_step 241 = .ok (.goto 64, 3) := by decide +kernel
theorem dM_step_244 : decode b_M_step 244 = .ok (.aload_n 0, 1) := by decide +kernel
theorem dM_step_245 : decode b_M_step 245 = .ok (.iload_n 2, 1) := by decide +kernel
theorem dM_step_246 : decode b_M_step 246 = .ok (.iload_n 3, 1) := by decide +kernel
theorem dM_step_247 : decode b_M_step 247 = .ok (.invokevirtual 107, 3) := by decide +kernel
theorem dM_step_250 : decode b_M_step 250 = .ok (.istore 6, 2) := by decide +kernel
theorem dM_step_252 : decode b_M_step 252 = .ok (.aload_n 0, 1) := by decide +kernel
theorem dM_step_253 : decode b_M_step 253 = .ok (.iload_n 2, 1) := by decide +kernel
theorem dM_step_254 : decode b_M_step 254 = .ok (.iload 6, 2) := by decide +kernel
theorem dM_step_256 : decode b_M_step 256 = .ok (.invokevirtual 100, 3) := by decide +kernel
theorem dM_step_259 : decode b_M_step 259 = .ok (.iconst 4, 1) := by decide +kernel
theorem dM_step_260 : decode b_M_step 260 = .ok (.if_icmp .eq 4, 3) := by decide +kernel
theorem dM_step_263 : decode b_M_step 263 = .ok (.return_, 1) := by decide +kernel
theorem dM_step_264 : decode b_M_step 264 = .ok (.aload_n 0, 1) := by decide +kernel
theorem dM_step_265 : decode b_M_step 265 = .ok (.getfield 72, 3) := by decide +kernel
theorem dM_step_268 : decode b_M_step 268 = .ok (.bipush 24, 2) := by decide +kernel
theorem dM_step_270 : decode b_M_step 270 = .ok (.iload_n 1, 1) := by decide +kernel
theorem dM_step_271 : decode b_M_step 271 = .ok (.imul, 1) := by decide +kernel
theorem dM_step_272 : decode b_M_step 272 = .ok (.iload 6, 2) := by decide +kernel
theorem dM_step_274 : decode b_M_step 274 = .ok (.iadd, 1) := by decide +kernel
theorem dM_step_275 : decode b_M_step 275 = .ok (.dup2, 1) := by decide +kernel
theorem dM_step_276 : decode b_M_step 276 = .ok (.iaload, 1) := by decide +kernel
theorem dM_step_277 : decode b_M_step 277 = .ok (.iconst 1, 1) := by decide +kernel
theorem dM_step_278 : decode b_M_step 278 = .ok (.isub, 1) := by decide +kernel
theorem dM_step_279 : decode b_M_step 279 = .ok (.iastore, 1) := by decide +kernel
theorem dM_step_280 : decode b_M_step 280 = .ok (.aload_n 0, 1) := by decide +kernel
theorem dM_step_281 : decode b_M_step 281 = .ok (.getfield 72, 3) := by decide +kernel
theorem dM_step_284 : decode b_M_step 284 = .ok (.bipush 24, 2) := by decide +kernel
theorem dM_step_286 : decode b_M_step 286 = .ok (.iload_n 1, 1) := by decide +kernel
theorem dM_step_287 : decode b_M_step 287 = .ok (.imul, 1) := by decide +kernel
theorem dM_step_288 : decode b_M_step 288 = .ok (.iload 6, 2) := by decide +kernel
theorem dM_step_290 : decode b_M_step 290 = .ok (.iadd, 1) := by decide +kernel
theorem dM_step_291 : decode b_M_step 291 = .ok (.iaload, 1) := by decide +kernel
theorem dM_step_292 : decode b_M_step 292 = .ok (.ifCond .le 13, 3) := by decide +kernel
theorem dM_step_295 : decode b_M_step 295 = .ok (.aload_n 0, 1) := by decide +kernel
theorem dM_step_296 : decode b_M_step 296 = .ok (.getfield 66, 3) := by decide +kernel
theorem dM_step_299 : decode b_M_step 299 = .ok (.iload_n 1, 1) := by decide +kernel
theorem dM_step_300 : decode b_M_step 300 = .ok (.iload 6, 2) := by decide +kernel
theorem dM_step_302 : decode b_M_step 302 = .ok (.iconst 1, 1) := by decide +kernel
theorem dM_step_303 : decode b_M_step 303 = .ok (.iadd, 1) := by decide +kernel
theorem dM_step_304 : decode b_M_step 304 = .ok (.iastore, 1) := by decide +kernel
theorem dM_step_305 : decode b_M_step 305 = .ok (.return_, 1) := by decide +kernel
theorem dM_store_0 : decode b_M_store 0 = .ok (.iconst 0, 1) := by decide +kernel
theorem dM_store_1 : decode b_M_store 1 = .ok (.istore_n 3, 1) := by decide +kernel
theorem dM_store_2 : decode b_M_store 2 = .ok (.iload_n 3, 1) := by decide +kernel
theorem dM_store_3 : decode b_M_store 3 = .ok (.iconst 4, 1) := by decide +kernel
theorem dM_store_4 : decode b_M_store 4 = .ok (.if_icmp .ge 33, 3) := by decide +kernel
theorem dM_store_7 : decode b_M_store 7 = .ok (.aload_n 0, 1) := by decide +kernel
theorem dM_store_8 : decode b_M_store 8 = .ok (.getfield 53, 3) := by decide +kernel
theorem dM_store_11 : decode b_M_store 11 = .ok (.aload_n 0, 1) := by decide +kernel
theorem dM_store_12 : decode b_M_store 12 = .ok (.iload_n 1, 1) := by decide +kernel
theorem dM_store_13 : decode b_M_store 13 = .ok (.invokevirtual 153, 3) := by decide +kernel
theorem dM_store_16 : decode b_M_store 16 = .ok (.iload_n 3, 1) := by decide +kernel
theorem dM_store_17 : decode b_M_store 17 = .ok (.iadd, 1) := by decide +kernel
theorem dM_store_18 : decode b_M_store 18 = .ok (.aload_n 0, 1) := by decide +kernel
theorem dM_store_19 : decode b_M_store 19 = .ok (.getfield 57, 3) := by decide +kernel
theorem dM_store_22 : decode b_M_store 22 = .ok (.aload_n 0, 1) := by decide +kernel
theorem dM_store_23 : decode b_M_store 23 = .ok (.iload_n 2, 1) := by decide +kernel
theorem dM_store_24 : decode b_M_store 24 = .ok (.invokevirtual 146, 3) := by decide +kernel
theorem dM_store_27 : decode b_M_store 27 = .ok (.iload_n 3, 1) := by decide +kernel
theorem dM_store_28 : decode b_M_store 28 = .ok (.iadd, 1) := by decide +kernel
theorem dM_store_29 : decode b_M_store 29 = .ok (.laload, 1) := by decide +kernel
theorem dM_store_30 : decode b_M_store 30 = .ok (.lastore, 1) := by decide +kernel
theorem dM_store_31 : decode b_M_store 31 = .ok (.iinc 3 1, 3) := by decide +kernel
theorem dM_store_34 : decode b_M_store 34 = .ok (.goto (-32), 3) := by decide +kernel
theorem dM_store_37 : decode b_M_store 37 = .ok (.return_, 1) := by decide +kernel
theorem dM_sumOf_0 : decode b_M_sumOf 0 = .ok (.iconst 1, 1) := by decide +kernel
theorem dM_sumOf_1 : decode b_M_sumOf 1 = .ok (.istore_n 2, 1) := by decide +kernel
theorem dM_sumOf_2 : decode b_M_sumOf 2 = .ok (.iconst 0, 1) := by decide +kernel
theorem dM_sumOf_3 : decode b_M_sumOf 3 = .ok (.istore_n 3, 1) := by decide +kernel
theorem dM_sumOf_4 : decode b_M_sumOf 4 = .ok (.iload_n 3, 1) := by decide +kernel
theorem dM_sumOf_5 : decode b_M_sumOf 5 = .ok (.aload_n 0, 1) := by decide +kernel
theorem dM_sumOf_6 : decode b_M_sumOf 6 = .ok (.getfield 37, 3) := by decide +kernel
theorem dM_sumOf_9 : decode b_M_sumOf 9 = .ok (.iload_n 1, 1) := by decide +kernel
theorem dM_sumOf_10 : decode b_M_sumOf 10 = .ok (.iaload, 1) := by decide +kernel
theorem dM_sumOf_11 : decode b_M_sumOf 11 = .ok (.if_icmp .ge 79, 3) := by decide +kernel
theorem dM_sumOf_14 : decode b_M_sumOf 14 = .ok (.aload_n 0, 1) := by decide +kernel
theorem dM_sumOf_15 : decode b_M_sumOf 15 = .ok (.getfield 28, 3) := by decide +kernel
theorem dM_sumOf_18 : decode b_M_sumOf 18 = .ok (.bipush 12, 2) := by decide +kernel
theorem dM_sumOf_20 : decode b_M_sumOf 20 = .ok (.iload_n 1, 1) := by decide +kernel
theorem dM_sumOf_21 : decode b_M_sumOf 21 = .ok (.imul, 1) := by decide +kernel
theorem dM_sumOf_22 : decode b_M_sumOf 22 = .ok (.iload_n 3, 1) := by decide +kernel
theorem dM_sumOf_23 : decode b_M_sumOf 23 = .ok (.iadd, 1) := by decide +kernel
theorem dM_sumOf_24 : decode b_M_sumOf 24 = .ok (.iaload, 1) := by decide +kernel
theorem dM_sumOf_25 : decode b_M_sumOf 25 = .ok (.istore 4, 2) := by decide +kernel
theorem dM_sumOf_27 : decode b_M_sumOf 27 = .ok (.iload 4, 2) := by decide +kernel
theorem dM_sumOf_29 : decode b_M_sumOf 29 = .ok (.invokestatic 118, 3) := by decide +kernel
theorem dM_sumOf_32 : decode b_M_sumOf 32 = .ok (.ifCond .eq 24, 3) := by decide +kernel
theorem dM_sumOf_35 : decode b_M_sumOf 35 = .ok (.iconst 1, 1) := by decide +kernel
theorem dM_sumOf_36 : decode b_M_sumOf 36 = .ok (.aload_n 0, 1) := by decide +kernel
theorem dM_sumOf_37 : decode b_M_sumOf 37 = .ok (.getfield 40, 3) := by decide +kernel
theorem dM_sumOf_40 : decode b_M_sumOf 40 = .ok (.aload_n 0, 1) := by decide +kernel
theorem dM_sumOf_41 : decode b_M_sumOf 41 = .ok (.getfield 34, 3) := by decide +kernel
theorem dM_sumOf_44 : decode b_M_sumOf 44 = .ok (.bipush 12, 2) := by decide +kernel
theorem dM_sumOf_46 : decode b_M_sumOf 46 = .ok (.iload_n 1, 1) := by decide +kernel
theorem dM_sumOf_47 : decode b_M_sumOf 47 = .ok (.imul, 1) := by decide +kernel
theorem dM_sumOf_48 : decode b_M_sumOf 48 = .ok (.iload_n 3, 1) := by decide +kernel
theorem dM_sumOf_49 : decode b_M_sumOf 49 = .ok (.iadd, 1) := by decide +kernel
theorem dM_sumOf_50 : decode b_M_sumOf 50 = .ok (.iaload, 1) := by decide +kernel
theorem dM_sumOf_51 : decode b_M_sumOf 51 = .ok (.iaload, 1) := by decide +kernel
theorem dM_sumOf_52 : decode b_M_sumOf 52 = .ok (.iadd, 1) := by decide +kernel
theorem dM_sumOf_53 : decode b_M_sumOf 53 = .ok (.goto 14, 3) := by decide +kernel
theorem dM_sumOf_56 : decode b_M_sumOf 56 = .ok (.iload 4, 2) := by decide +kernel
theorem dM_sumOf_58 : decode b_M_sumOf 58 = .ok (.iconst 4, 1) := by decide +kernel
theorem dM_sumOf_59 : decode b_M_sumOf 59 = .ok (.if_icmp .ne 7, 3) := by decide +kernel
theorem dM_sumOf_62 : decode b_M_sumOf 62 = .ok (.iconst 1, 1) := by decide +kernel
theorem dM_sumOf_63 : decode b_M_sumOf 63 = .ok (.goto 4, 3) := by decide +kernel
theorem dM_sumOf_66 : decode b_M_sumOf 66 = .ok (.iconst 0, 1) := by decide +kernel
theorem dM_sumOf_67 : decode b_M_sumOf 67 = .ok (.istore 5, 2) := by decide +kernel
theorem dM_sumOf_69 : decode b_M_sumOf 69 = .ok (.iload_n 2, 1) := by decide +kernel
theorem dM_sumOf_70 : decode b_M_sumOf 70 = .ok (.iload 5, 2) := by decide +kernel
theorem dM_sumOf_72 : decode b_M_sumOf 72 = .ok (.aload_n 0, 1) := by decide +kernel
theorem dM_sumOf_73 : decode b_M_sumOf 73 = .ok (.iload_n 1, 1) := by decide +kernel
theorem dM_sumOf_74 : decode b_M_sumOf 74 = .ok (.iload_n 3, 1) := by decide +kernel
theorem dM_sumOf_75 : decode b_M_sumOf 75 = .ok (.invokevirtual 130, 3) := by decide +kernel
theorem dM_sumOf_78 : decode b_M_sumOf 78 = .ok (.imul, 1) := by decide +kernel
theorem dM_sumOf_79 : decode b_M_sumOf 79 = .ok (.iadd, 1) := by decide +kernel
theorem dM_sumOf_80 : decode b_M_sumOf 80 = .ok (.invokestatic 121, 3) := by decide +kernel
theorem dM_sumOf_83 : decode b_M_sumOf 83 = .ok (.istore_n 2, 1) := by decide +kernel
theorem dM_sumOf_84 : decode b_M_sumOf 84 = .ok (.iinc 3 1, 3) := by decide +kernel
theorem dM_sumOf_87 : decode b_M_sumOf 87 = .ok (.goto (-83), 3) := by decide +kernel
theorem dM_sumOf_90 : decode b_M_sumOf 90 = .ok (.iload_n 2, 1) := by decide +kernel
theorem dM_sumOf_91 : decode b_M_sumOf 91 = .ok (.ireturn, 1) := by decide +kernel
theorem dM_times_0 : decode b_M_times 0 = .ok (.iconst 1, 1) := by decide +kernel
theorem dM_times_1 : decode b_M_times 1 = .ok (.istore_n 3, 1) := by decide +kernel
theorem dM_times_2 : decode b_M_times 2 = .ok (.aload_n 0, 1) := by decide +kernel
theorem dM_times_3 : decode b_M_times 3 = .ok (.iload_n 1, 1) := by decide +kernel
theorem dM_times_4 : decode b_M_times 4 = .ok (.iload_n 2, 1) := by decide +kernel
theorem dM_times_5 : decode b_M_times 5 = .ok (.invokevirtual 107, 3) := by decide +kernel
theorem dM_times_8 : decode b_M_times 8 = .ok (.istore 4, 2) := by decide +kernel
theorem dM_times_10 : decode b_M_times 10 = .ok (.iload 4, 2) := by decide +kernel
theorem dM_times_12 : decode b_M_times 12 = .ok (.ifCond .lt 44, 3) := by decide +kernel
theorem dM_times_15 : decode b_M_times 15 = .ok (.aload_n 0, 1) := by decide +kernel
theorem dM_times_16 : decode b_M_times 16 = .ok (.iload_n 1, 1) := by decide +kernel
theorem dM_times_17 : decode b_M_times 17 = .ok (.iload 4, 2) := by decide +kernel
theorem dM_times_19 : decode b_M_times 19 = .ok (.invokevirtual 100, 3) := by decide +kernel
theorem dM_times_22 : decode b_M_times 22 = .ok (.iconst 4, 1) := by decide +kernel
theorem dM_times_23 : decode b_M_times 23 = .ok (.if_icmp .ne 21, 3) := by decide +kernel
theorem dM_times_26 : decode b_M_times 26 = .ok (.iload_n 3, 1) := by decide +kernel
theorem dM_times_27 : decode b_M_times 27 = .ok (.aload_n 0, 1) := by decide +kernel
theorem dM_times_28 : decode b_M_times 28 = .ok (.getfield 34, 3) := by decide +kernel
theorem dM_times_31 : decode b_M_times 31 = .ok (.bipush 12, 2) := by decide +kernel
theorem dM_times_33 : decode b_M_times 33 = .ok (.iload_n 1, 1) := by decide +kernel
theorem dM_times_34 : decode b_M_times 34 = .ok (.imul, 1) := by decide +kernel
theorem dM_times_35 : decode b_M_times 35 = .ok (.iload 4, 2) := by decide +kernel
theorem dM_times_37 : decode b_M_times 37 = .ok (.iadd, 1) := by decide +kernel
theorem dM_times_38 : decode b_M_times 38 = .ok (.iaload, 1) := by decide +kernel
theorem dM_times_39 : decode b_M_times 39 = .ok (.imul, 1) := by decide +kernel
theorem dM_times_40 : decode b_M_times 40 = .ok (.invokestatic 121, 3) := by decide +kernel
theorem dM_times_43 : decode b_M_times 43 = .ok (.istore_n 3, 1) := by decide +kernel
theorem dM_times_44 : decode b_M_times 44 = .ok (.aload_n 0, 1) := by decide +kernel
theorem dM_times_45 : decode b_M_times 45 = .ok (.iload_n 1, 1) := by decide +kernel
theorem dM_times_46 : decode b_M_times 46 = .ok (.iload 4, 2) := by decide +kernel
theorem dM_times_48 : decode b_M_times 48 = .ok (.invokevirtual 107, 3) := by decide +kernel
theorem dM_times_51 : decode b_M_times 51 = .ok (.istore 4, 2) := by decide +kernel
theorem dM_times_53 : decode b_M_times 53 = .ok (.goto (-43), 3) := by decide +kernel
theorem dM_times_56 : decode b_M_times 56 = .ok (.iload_n 3, 1) := by decide +kernel
theorem dM_times_57 : decode b_M_times 57 = .ok (.ireturn, 1) := by decide +kernel
theorem dM_tooDear_0 : decode b_M_tooDear 0 = .ok (.iconst 0, 1) := by decide +kernel
theorem dM_tooDear_1 : decode b_M_tooDear 1 = .ok (.istore_n 1, 1) := by decide +kernel
theorem dM_tooDear_2 : decode b_M_tooDear 2 = .ok (.iload_n 1, 1) := by decide +kernel
theorem dM_tooDear_3 : decode b_M_tooDear 3 = .ok (.bipush 8, 2) := by decide +kernel
theorem dM_tooDear_5 : decode b_M_tooDear 5 = .ok (.if_icmp .ge 16, 3) := by decide +kernel
theorem dM_tooDear_8 : decode b_M_tooDear 8 = .ok (.aload_n 0, 1) := by decide +kernel
theorem dM_tooDear_9 : decode b_M_tooDear 9 = .ok (.getfield 43, 3) := by decide +kernel
theorem dM_tooDear_12 : decode b_M_tooDear 12 = .ok (.iload_n 1, 1) := by decide +kernel
theorem dM_tooDear_13 : decode b_M_tooDear 13 = .ok (.iconst 0, 1) := by decide +kernel
theorem dM_tooDear_14 : decode b_M_tooDear 14 = .ok (.iastore, 1) := by decide +kernel
theorem dM_tooDear_15 : decode b_M_tooDear 15 = .ok (.iinc 1 1, 3) := by decide +kernel
theorem dM_tooDear_18 : decode b_M_tooDear 18 = .ok (.goto (-16), 3) := by decide +kernel
theorem dM_tooDear_21 : decode b_M_tooDear 21 = .ok (.iconst 0, 1) := by decide +kernel
theorem dM_tooDear_22 : decode b_M_tooDear 22 = .ok (.istore_n 1, 1) := by decide +kernel
theorem dM_tooDear_23 : decode b_M_tooDear 23 = .ok (.iconst 0, 1) := by decide +kernel
theorem dM_tooDear_24 : decode b_M_tooDear 24 = .ok (.istore_n 2, 1) := by decide +kernel
theorem dM_tooDear_25 : decode b_M_tooDear 25 = .ok (.iload_n 2, 1) := by decide +kernel
theorem dM_tooDear_26 : decode b_M_tooDear 26 = .ok (.bipush 9, 2) := by decide +kernel
theorem dM_tooDear_28 : decode b_M_tooDear 28 = .ok (.if_icmp .ge 76, 3) := by decide +kernel
theorem dM_tooDear_31 : decode b_M_tooDear 31 = .ok (.iconst 0, 1) := by decide +kernel
theorem dM_tooDear_32 : decode b_M_tooDear 32 = .ok (.istore_n 3, 1) := by decide +kernel
theorem dM_tooDear_33 : decode b_M_tooDear 33 = .ok (.iload_n 3, 1) := by decide +kernel
theorem dM_tooDear_34 : decode b_M_tooDear 34 = .ok (.aload_n 0, 1) := by decide +kernel
theorem dM_tooDear_35 : decode b_M_tooDear 35 = .ok (.getfield 75, 3) := by decide +kernel
theorem dM_tooDear_38 : decode b_M_tooDear 38 = .ok (.if_icmp .ge 20, 3) := by decide +kernel
theorem dM_tooDear_41 : decode b_M_tooDear 41 = .ok (.aload_n 0, 1) := by decide +kernel
theorem dM_tooDear_42 : decode b_M_tooDear 42 = .ok (.getfield 40, 3) := by decide +kernel
theorem dM_tooDear_45 : decode b_M_tooDear 45 = .ok (.iload_n 3, 1) := by decide +kernel
theorem dM_tooDear_46 : decode b_M_tooDear 46 = .ok (.aload_n 0, 1) := by decide +kernel
theorem dM_tooDear_47 : decode b_M_tooDear 47 = .ok (.iload_n 3, 1) := by decide +kernel
theorem dM_tooDear_48 : decode b_M_tooDear 48 = .ok (.invokevirtual 124, 3) := by decide +kernel
theorem dM_tooDear_51 : decode b_M_tooDear 51 = .ok (.iastore, 1) := by decide +kernel
theorem dM_tooDear_52 : decode b_M_tooDear 52 = .ok (.iinc 3 1, 3) := by decide +kernel
theorem dM_tooDear_55 : decode b_M_tooDear 55 = .ok (.goto (-22), 3) := by decide +kernel
theorem dM_tooDear_58 : decode b_M_tooDear 58 = .ok (.iconst 0, 1) := by decide +kernel
theorem dM_tooDear_59 : decode b_M_tooDear 59 = .ok (.istore_n 3, 1) := by decide +kernel
theorem dM_tooDear_60 : decode b_M_tooDear 60 = .ok (.iload_n 3, 1) := by decide +kernel
theorem dM_tooDear_61 : decode b_M_tooDear 61 = .ok (.aload_n 0, 1) := by decide +kernel
theorem dM_tooDear_62 : decode b_M_tooDear 62 = .ok (.getfield 83, 3) := by decide +kernel
theorem dM_tooDear_65 : decode b_M_tooDear 65 = .ok (.if_icmp .ge 33, 3) := by decide +kernel
theorem dM_tooDear_68 : decode b_M_tooDear 68 = .ok (.aload_n 0, 1) := by decide +kernel
theorem dM_tooDear_69 : decode b_M_tooDear 69 = .ok (.getfield 43, 3) := by decide +kernel
theorem dM_tooDear_72 : decode b_M_tooDear 72 = .ok (.iload_n 3, 1) := by decide +kernel
theorem dM_tooDear_73 : decode b_M_tooDear 73 = .ok (.aload_n 0, 1) := by decide +kernel
theorem dM_tooDear_74 : decode b_M_tooDear 74 = .ok (.getfield 22, 3) := by decide +kernel
theorem dM_tooDear_77 : decode b_M_tooDear 77 = .ok (.iload_n 3, 1) := by decide +kernel
theorem dM_tooDear_78 : decode b_M_tooDear 78 = .ok (.iaload, 1) := by decide +kernel
theorem dM_tooDear_79 : decode b_M_tooDear 79 = .ok (.ifCond .lt 7, 3) := by decide +kernel
theorem dM_tooDear_82 : decode b_M_tooDear 82 = .ok (.iconst 0, 1) := by decide +kernel
theorem dM_tooDear_83 : decode b_M_tooDear 83 = .ok (.goto 8, 3) := by decide +kernel
theorem dM_tooDear_86 : decode b_M_tooDear 86 = .ok (.aload_n 0, 1) := by decide +kernel
theorem dM_tooDear_87 : decode b_M_tooDear 87 = .ok (.iload_n 3, 1) := by decide +kernel
theorem dM_tooDear_88 : decode b_M_tooDear 88 = .ok (.invokevirtual 127, 3) := by decide +kernel
theorem dM_tooDear_91 : decode b_M_tooDear 91 = .ok (.iastore, 1) := by decide +kernel
theorem dM_tooDear_92 : decode b_M_tooDear 92 = .ok (.iinc 3 1, 3) := by decide +kernel
theorem dM_tooDear_95 : decode b_M_tooDear 95 = .ok (.goto (-35), 3) := by decide +kernel
theorem dM_tooDear_98 : decode b_M_tooDear 98 = .ok (.iinc 2 1, 3) := by decide +kernel
theorem dM_tooDear_101 : decode b_M_tooDear 101 = .ok (.goto (-76), 3) := by decide +kernel
theorem dM_tooDear_104 : decode b_M_tooDear 104 = .ok (.iconst 0, 1) := by decide +kernel
theorem dM_tooDear_105 : decode b_M_tooDear 105 = .ok (.istore_n 2, 1) := by decide +kernel
theorem dM_tooDear_106 : decode b_M_tooDear 106 = .ok (.iload_n 2, 1) := by decide +kernel
theorem dM_tooDear_107 : decode b_M_tooDear 107 = .ok (.aload_n 0, 1) := by decide +kernel
theorem dM_tooDear_108 : decode b_M_tooDear 108 = .ok (.getfield 83, 3) := by decide +kernel
theorem dM_tooDear_111 : decode b_M_tooDear 111 = .ok (.if_icmp .ge 22, 3) := by decide +kernel
theorem dM_tooDear_114 : decode b_M_tooDear 114 = .ok (.aload_n 0, 1) := by decide +kernel
theorem dM_tooDear_115 : decode b_M_tooDear 115 = .ok (.getfield 43, 3) := by decide +kernel
theorem dM_tooDear_118 : decode b_M_tooDear 118 = .ok (.iload_n 2, 1) := by decide +kernel
theorem dM_tooDear_119 : decode b_M_tooDear 119 = .ok (.iaload, 1) := by decide +kernel
theorem dM_tooDear_120 : decode b_M_tooDear 120 = .ok (.bipush 40, 2) := by decide +kernel
theorem dM_tooDear_122 : decode b_M_tooDear 122 = .ok (.if_icmp .le 5, 3) := by decide +kernel
theorem dM_tooDear_125 : decode b_M_tooDear 125 = .ok (.iconst 1, 1) := by decide +kernel
theorem dM_tooDear_126 : decode b_M_tooDear 126 = .ok (.istore_n 1, 1) := by decide +kernel
theorem dM_tooDear_127 : decode b_M_tooDear 127 = .ok (.iinc 2 1, 3) := by decide +kernel
theorem dM_tooDear_130 : decode b_M_tooDear 130 = .ok (.goto (-24), 3) := by decide +kernel
theorem dM_tooDear_133 : decode b_M_tooDear 133 = .ok (.iload_n 1, 1) := by decide +kernel
theorem dM_tooDear_134 : decode b_M_tooDear 134 = .ok (.ireturn, 1) := by decide +kernel
theorem dM_uses_0 : decode b_M_uses 0 = .ok (.iload_n 0, 1) := by decide +kernel
theorem dM_uses_1 : decode b_M_uses 1 = .ok (.iconst 2, 1) := by decide +kernel
theorem dM_uses_2 : decode b_M_uses 2 = .ok (.if_icmp .gt 7, 3) := by decide +kernel
theorem dM_uses_5 : decode b_M_uses 5 = .ok (.iconst 1, 1) := by decide +kernel
theorem dM_uses_6 : decode b_M_uses 6 = .ok (.goto 4, 3) := by decide +kernel
theorem dM_uses_9 : decode b_M_uses 9 = .ok (.iconst 0, 1) := by decide +kernel
theorem dM_uses_10 : decode b_M_uses 10 = .ok (.ireturn, 1) := by decide +kernel
theorem dM_within_0 : decode b_M_within 0 = .ok (.iconst 0, 1) := by decide +kernel
theorem dM_within_1 : decode b_M_within 1 = .ok (.istore_n 3, 1) := by decide +kernel
theorem dM_within_2 : decode b_M_within 2 = .ok (.iload_n 2, 1) := by decide +kernel
theorem dM_within_3 : decode b_M_within 3 = .ok (.iconst 1, 1) := by decide +kernel
theorem dM_within_4 : decode b_M_within 4 = .ok (.isub, 1) := by decide +kernel
theorem dM_within_5 : decode b_M_within 5 = .ok (.istore 4, 2) := by decide +kernel
theorem dM_within_7 : decode b_M_within 7 = .ok (.iload 4, 2) := by decide +kernel
theorem dM_within_9 : decode b_M_within 9 = .ok (.ifCond .lt 46, 3) := by decide +kernel
theorem dM_within_12 : decode b_M_within 12 = .ok (.aload_n 0, 1) := by decide +kernel
theorem dM_within_13 : decode b_M_within 13 = .ok (.iload_n 1, 1) := by decide +kernel
theorem dM_within_14 : decode b_M_within 14 = .ok (.iload 4, 2) := by decide +kernel
theorem dM_within_16 : decode b_M_within 16 = .ok (.invokevirtual 100, 3) := by decide +kernel
theorem dM_within_19 : decode b_M_within 19 = .ok (.iconst 5, 1) := by decide +kernel
theorem dM_within_20 : decode b_M_within 20 = .ok (.if_icmp .ne 6, 3) := by decide +kernel
theorem dM_within_23 : decode b_M_within 23 = .ok (.iinc 3 1, 3) := by decide +kernel
theorem dM_within_26 : decode b_M_within 26 = .ok (.aload_n 0, 1) := by decide +kernel
theorem dM_within_27 : decode b_M_within 27 = .ok (.iload_n 1, 1) := by decide +kernel
theorem dM_within_28 : decode b_M_within 28 = .ok (.iload 4, 2) := by decide +kernel
theorem dM_within_30 : decode b_M_within 30 = .ok (.invokevirtual 100, 3) := by decide +kernel
theorem dM_within_33 : decode b_M_within 33 = .ok (.invokestatic 104, 3) := by decide +kernel
theorem dM_within_36 : decode b_M_within 36 = .ok (.ifCond .eq 13, 3) := by decide +kernel
theorem dM_within_39 : decode b_M_within 39 = .ok (.iload_n 3, 1) := by decide +kernel
theorem dM_within_40 : decode b_M_within 40 = .ok (.ifCond .ne 6, 3) := by decide +kernel
theorem dM_within_43 : decode b_M_within 43 = .ok (.iload 4, 2) := by decide +kernel
theorem dM_within_45 : decode b_M_within 45 = .ok (.ireturn, 1) := by decide +kernel
theorem dM_within_46 : decode b_M_within 46 = .ok (.iinc 3 (-1), 3) := by decide +kernel
theorem dM_within_49 : decode b_M_within 49 = .ok (.iinc 4 (-1), 3) := by decide +kernel
theorem dM_within_52 : decode b_M_within 52 = .ok (.goto (-45), 3) := by decide +kernel
theorem dM_within_55 : decode b_M_within 55 = .ok (.iconst (-1), 1) := by decide +kernel
theorem dM_within_56 : decode b_M_within 56 = .ok (.ireturn, 1) := by decide +kernel
theorem dM_work_0 : decode b_M_work 0 = .ok (.aload_n 0, 1) := by decide +kernel
theorem dM_work_1 : decode b_M_work 1 = .ok (.getfield 7, 3) := by decide +kernel
theorem dM_work_4 : decode b_M_work 4 = .ok (.iload_n 1, 1) := by decide +kernel
theorem dM_work_5 : decode b_M_work 5 = .ok (.iaload, 1) := by decide +kernel
theorem dM_work_6 : decode b_M_work 6 = .ok (.istore_n 2, 1) := by decide +kernel
theorem dM_work_7 : decode b_M_work 7 = .ok (.iload_n 2, 1) := by decide +kernel
theorem dM_work_8 : decode b_M_work 8 = .ok (.iconst 2, 1) := by decide +kernel
theorem dM_work_9 : decode b_M_work 9 = .ok (.if_icmp .lt 16, 3) := by decide +kernel
theorem dM_work_12 : decode b_M_work 12 = .ok (.aload_n 0, 1) := by decide +kernel
theorem dM_work_13 : decode b_M_work 13 = .ok (.aload_n 0, 1) := by decide +kernel
theorem dM_work_14 : decode b_M_work 14 = .ok (.getfield 13, 3) := by decide +kernel
theorem dM_work_17 : decode b_M_work 17 = .ok (.iload_n 1, 1) := by decide +kernel
theorem dM_work_18 : decode b_M_work 18 = .ok (.iaload, 1) := by decide +kernel
theorem dM_work_19 : decode b_M_work 19 = .ok (.invokevirtual 146, 3) := by decide +kernel
theorem dM_work_22 : decode b_M_work 22 = .ok (.goto 4, 3) := by decide +kernel
theorem dM_work_25 : decode b_M_work 25 = .ok (.iconst 0, 1) := by decide +kernel
theorem dM_work_26 : decode b_M_work 26 = .ok (.istore_n 3, 1) := by decide +kernel
theorem dM_work_27 : decode b_M_work 27 = .ok (.iload_n 2, 1) := by decide +kernel
theorem dM_work_28 : decode b_M_work 28 = .ok (.invokestatic 90, 3) := by decide +kernel
theorem dM_work_31 : decode b_M_work 31 = .ok (.ifCond .eq 16, 3) := by decide +kernel
theorem dM_work_34 : decode b_M_work 34 = .ok (.aload_n 0, 1) := by decide +kernel
theorem dM_work_35 : decode b_M_work 35 = .ok (.aload_n 0, 1) := by decide +kernel
theorem dM_work_36 : decode b_M_work 36 = .ok (.getfield 16, 3) := by decide +kernel
theorem dM_work_39 : decode b_M_work 39 = .ok (.iload_n 1, 1) := by decide +kernel
theorem dM_work_40 : decode b_M_work 40 = .ok (.iaload, 1) := by decide +kernel
theorem dM_work_41 : decode b_M_work 41 = .ok (.invokevirtual 146, 3) := by decide +kernel
theorem dM_work_44 : decode b_M_work 44 = .ok (.goto 4, 3) := by decide +kernel
theorem dM_work_47 : decode b_M_work 47 = .ok (.iconst 0, 1) := by decide +kernel
theorem dM_work_48 : decode b_M_work 48 = .ok (.istore 4, 2) := by decide +kernel
theorem dM_work_50 : decode b_M_work 50 = .ok (.iload_n 2, 1) := by decide +kernel
theorem dM_work_51 : decode b_M_work 51 = .ok (.ifCond .ne 18, 3) := by decide +kernel
theorem dM_work_54 : decode b_M_work 54 = .ok (.aload_n 0, 1) := by decide +kernel
theorem dM_work_55 : decode b_M_work 55 = .ok (.iload_n 1, 1) := by decide +kernel
theorem dM_work_56 : decode b_M_work 56 = .ok (.aload_n 0, 1) := by decide +kernel
theorem dM_work_57 : decode b_M_work 57 = .ok (.getfield 13, 3) := by decide +kernel
theorem dM_work_60 : decode b_M_work 60 = .ok (.iload_n 1, 1) := by decide +kernel
theorem dM_work_61 : decode b_M_work 61 = .ok (.iaload, 1) := by decide +kernel
theorem dM_work_62 : decode b_M_work 62 = .ok (.i2l, 1) := by decide +kernel
theorem dM_work_63 : decode b_M_work 63 = .ok (.invokevirtual 149, 3) := by decide +kernel
theorem dM_work_66 : decode b_M_work 66 = .ok (.goto 380, 3) := by decide +kernel
theorem dM_work_69 : decode b_M_work 69 = .ok (.iload_n 2, 1) := by decide +kernel
theorem dM_work_70 : decode b_M_work 70 = .ok (.iconst 1, 1) := by decide +kernel
theorem dM_work_71 : decode b_M_work 71 = .ok (.if_icmp .ne 22, 3) := by decide +kernel
theorem dM_work_74 : decode b_M_work 74 = .ok (.aload_n 0, 1) := by decide +kernel
theorem dM_work_75 : decode b_M_work 75 = .ok (.iload_n 1, 1) := by decide +kernel
theorem dM_work_76 : decode b_M_work 76 = .ok (.aload_n 0, 1) := by decide +kernel
theorem dM_work_77 : decode b_M_work 77 = .ok (.aload_n 0, 1) := by decide +kernel
theorem dM_work_78 : decode b_M_work 78 = .ok (.getfield 13, 3) := by decide +kernel
theorem dM_work_81 : decode b_M_work 81 = .ok (.iload_n 1, 1) := by decide +kernel
theorem dM_work_82 : decode b_M_work 82 = .ok (.iaload, 1) := by decide +kernel
theorem dM_work_83 : decode b_M_work 83 = .ok (.invokevirtual 153, 3) := by decide +kernel
theorem dM_work_86 : decode b_M_work 86 = .ok (.iconst 1, 1) := by decide +kernel
theorem dM_work_87 : decode b_M_work 87 = .ok (.invokevirtual 156, 3) := by decide +kernel
theorem dM_work_90 : decode b_M_work 90 = .ok (.goto 356, 3) := by decide +kernel
theorem dM_work_93 : decode b_M_work 93 = .ok (.iload_n 2, 1) := by decide +kernel
theorem dM_work_94 : decode b_M_work 94 = .ok (.iconst 2, 1) := by decide +kernel
theorem dM_work_95 : decode b_M_work 95 = .ok (.if_icmp .ne 15, 3) := by decide +kernel
theorem dM_work_98 : decode b_M_work 98 = .ok (.aload_n 0, 1) := by decide +kernel
theorem dM_work_99 : decode b_M_work 99 = .ok (.iload_n 1, 1) := by decide +kernel
theorem dM_work_100 : decode b_M_work 100 = .ok (.iload_n 3, 1) := by decide +kernel
theorem dM_work_101 : decode b_M_work 101 = .ok (.iload 4, 2) := by decide +kernel
theorem dM_work_103 : decode b_M_work 103 = .ok (.lconst 1, 1) := by decide +kernel
theorem dM_work_104 : decode b_M_work 104 = .ok (.invokevirtual 160, 3) := by decide +kernel
theorem dM_work_107 : decode b_M_work 107 = .ok (.goto 339, 3) := by decide +kernel
theorem dM_work_110 : decode b_M_work 110 = .ok (.iload_n 2, 1) := by decide +kernel
theorem dM_work_111 : decode b_M_work 111 = .ok (.iconst 3, 1) := by decide +kernel
theorem dM_work_112 : decode b_M_work 112 = .ok (.if_icmp .ne 17, 3) := by decide +kernel
theorem dM_work_115 : decode b_M_work 115 = .ok (.aload_n 0, 1) := by decide +kernel
theorem dM_work_116 : decode b_M_work 116 = .ok (.iload_n 1, 1) := by decide +kernel
theorem dM_work_117 : decode b_M_work 117 = .ok (.iload_n 3, 1) := by decide +kernel
theorem dM_work_118 : decode b_M_work 118 = .ok (.iload 4, 2) := by decide +kernel
theorem dM_work_120 : decode b_M_work 120 = .ok (.ldc2_w 164, 3) := by decide +kernel
theorem dM_work_123 : decode b_M_work 123 = .ok (.invokevirtual 160, 3) := by decide +kernel
theorem dM_work_126 : decode b_M_work 126 = .ok (.goto 320, 3) := by decide +kernel
theorem dM_work_129 : decode b_M_work 129 = .ok (.iload_n 2, 1) := by decide +kernel
theorem dM_work_130 : decode b_M_work 130 = .ok (.iconst 4, 1) := by decide +kernel
theorem dM_work_131 : decode b_M_work 131 = .ok (.if_icmp .ne 14, 3) := by decide +kernel
theorem dM_work_134 : decode b_M_work 134 = .ok (.aload_n 0, 1) := by decide +kernel
theorem dM_work_135 : decode b_M_work 135 = .ok (.iload_n 1, 1) := by decide +kernel
theorem dM_work_136 : decode b_M_work 136 = .ok (.iload_n 3, 1) := by decide +kernel
theorem dM_work_137 : decode b_M_work 137 = .ok (.iload 4, 2) := by decide +kernel
theorem dM_work_139 : decode b_M_work 139 = .ok (.invokevirtual 166, 3) := by decide +kernel
theorem dM_work_142 : decode b_M_work 142 = .ok (.goto 304, 3) := by decide +kernel
theorem dM_work_145 : decode b_M_work 145 = .ok (.iload_n 2, 1) := by decide +kernel
theorem dM_work_146 : decode b_M_work 146 = .ok (.iconst 5, 1) := by decide +kernel
theorem dM_work_147 : decode b_M_work 147 = .ok (.if_icmp .ne 15, 3) := by decide +kernel
theorem dM_work_150 : decode b_M_work 150 = .ok (.aload_n 0, 1) := by decide +kernel
theorem dM_work_151 : decode b_M_work 151 = .ok (.iload_n 1, 1) := by decide +kernel
theorem dM_work_152 : decode b_M_work 152 = .ok (.iload_n 3, 1) := by decide +kernel
theorem dM_work_153 : decode b_M_work 153 = .ok (.ldc2_w 164, 3) := by decide +kernel
theorem dM_work_156 : decode b_M_work 156 = .ok (.invokevirtual 170, 3) := by decide +kernel
theorem dM_work_159 : decode b_M_work 159 = .ok (.goto 287, 3) := by decide +kernel
theorem dM_work_162 : decode b_M_work 162 = .ok (.iload_n 2, 1) := by decide +kernel
theorem dM_work_163 : decode b_M_work 163 = .ok (.bipush 6, 2) := by decide +kernel
theorem dM_work_165 : decode b_M_work 165 = .ok (.if_icmp .ne 43, 3) := by decide +kernel
theorem dM_work_168 : decode b_M_work 168 = .ok (.aload_n 0, 1) := by decide +kernel
theorem dM_work_169 : decode b_M_work 169 = .ok (.iload_n 1, 1) := by decide +kernel
theorem dM_work_170 : decode b_M_work 170 = .ok (.lconst 1, 1) := by decide +kernel
theorem dM_work_171 : decode b_M_work 171 = .ok (.invokevirtual 149, 3) := by decide +kernel
theorem dM_work_174 : decode b_M_work 174 = .ok (.iconst 0, 1) := by decide +kernel
theorem dM_work_175 : decode b_M_work 175 = .ok (.istore 5, 2) := by decide +kernel
theorem dM_work_177 : decode b_M_work 177 = .ok (.iload 5, 2) := by decide +kernel
theorem dM_work_179 : decode b_M_work 179 = .ok (.aload_n 0, 1) := by decide +kernel
theorem dM_work_180 : decode b_M_work 180 = .ok (.getfield 16, 3) := by decide +kernel
theorem dM_work_183 : decode b_M_work 183 = .ok (.iload_n 1, 1) := by decide +kernel
theorem dM_work_184 : decode b_M_work 184 = .ok (.iaload, 1) := by decide +kernel
theorem dM_work_185 : decode b_M_work 185 = .ok (.if_icmp .ge 20, 3) := by decide +kernel
theorem dM_work_188 : decode b_M_work 188 = .ok (.aload_n 0, 1) := by decide +kernel
theorem dM_work_189 : decode b_M_work 189 = .ok (.iload_n 1, 1) := by decide +kernel
theorem dM_work_190 : decode b_M_work 190 = .ok (.aload_n 0, 1) := by decide +kernel
theorem dM_work_191 : decode b_M_work 191 = .ok (.iload_n 1, 1) := by decide +kernel
theorem dM_work_192 : decode b_M_work 192 = .ok (.invokevirtual 146, 3) := by decide +kernel
theorem dM_work_195 : decode b_M_work 195 = .ok (.iload_n 3, 1) := by decide +kernel
theorem dM_work_196 : decode b_M_work 196 = .ok (.invokevirtual 166, 3) := by decide +kernel
theorem dM_work_199 : decode b_M_work 199 = .ok (.iinc 5 1, 3) := by decide +kernel
theorem dM_work_202 : decode b_M_work 202 = .ok (.goto (-25), 3) := by decide +kernel
theorem dM_work_205 : decode b_M_work 205 = .ok (.goto 241, 3) := by decide +kernel
theorem dM_work_208 : decode b_M_work 208 = .ok (.iload_n 2, 1) := by decide +kernel
theorem dM_work_209 : decode b_M_work 209 = .ok (.bipush 7, 2) := by decide +kernel
theorem dM_work_211 : decode b_M_work 211 = .ok (.if_icmp .ne 45, 3) := by decide +kernel
theorem dM_work_214 : decode b_M_work 214 = .ok (.aload_n 0, 1) := by decide +kernel
theorem dM_work_215 : decode b_M_work 215 = .ok (.iload_n 1, 1) := by decide +kernel
theorem dM_work_216 : decode b_M_work 216 = .ok (.iload_n 3, 1) := by decide +kernel
theorem dM_work_217 : decode b_M_work 217 = .ok (.aload_n 0, 1) := by decide +kernel
theorem dM_work_218 : decode b_M_work 218 = .ok (.getfield 57, 3) := by decide +kernel
theorem dM_work_221 : decode b_M_work 221 = .ok (.iload_n 3, 1) := by decide +kernel
theorem dM_work_222 : decode b_M_work 222 = .ok (.laload, 1) := by decide +kernel
theorem dM_work_223 : decode b_M_work 223 = .ok (.lconst 0, 1) := by decide +kernel
theorem dM_work_224 : decode b_M_work 224 = .ok (.lcmp, 1) := by decide +kernel
theorem dM_work_225 : decode b_M_work 225 = .ok (.ifCond .ge 9, 3) := by decide +kernel
theorem dM_work_228 : decode b_M_work 228 = .ok (.ldc2_w 164, 3) := by decide +kernel
theorem dM_work_231 : decode b_M_work 231 = .ok (.goto 19, 3) := by decide +kernel
theorem dM_work_234 : decode b_M_work 234 = .ok (.aload_n 0, 1) := by decide +kernel
theorem dM_work_235 : decode b_M_work 235 = .ok (.getfield 57, 3) := by decide +kernel
theorem dM_work_238 : decode b_M_work 238 = .ok (.iload_n 3, 1) := by decide +kernel
theorem dM_work_239 : decode b_M_work 239 = .ok (.laload, 1) := by decide +kernel
theorem dM_work_240 : decode b_M_work 240 = .ok (.lconst 0, 1) := by decide +kernel
theorem dM_work_241 : decode b_M_work 241 = .ok (.lcmp, 1) := by decide +kernel
theorem dM_work_242 : decode b_M_work 242 = .ok (.ifCond .ne 7, 3) := by decide +kernel
theorem dM_work_245 : decode b_M_work 245 = .ok (.lconst 0, 1) := by decide +kernel
theorem dM_work_246 : decode b_M_work 246 = .ok (.goto 4, 3) := by decide +kernel
theorem dM_work_249 : decode b_M_work 249 = .ok (.lconst 1, 1) := by decide +kernel
theorem dM_work_250 : decode b_M_work 250 = .ok (.invokevirtual 170, 3) := by decide +kernel
theorem dM_work_253 : decode b_M_work 253 = .ok (.goto 193, 3) := by decide +kernel
theorem dM_work_256 : decode b_M_work 256 = .ok (.iload_n 2, 1) := by decide +kernel
theorem dM_work_257 : decode b_M_work 257 = .ok (.bipush 8, 2) := by decide +kernel
theorem dM_work_259 : decode b_M_work 259 = .ok (.if_icmp .ne 35, 3) := by decide +kernel
theorem dM_work_262 : decode b_M_work 262 = .ok (.aload_n 0, 1) := by decide +kernel
theorem dM_work_263 : decode b_M_work 263 = .ok (.iload_n 1, 1) := by decide +kernel
theorem dM_work_264 : decode b_M_work 264 = .ok (.aload_n 0, 1) := by decide +kernel
theorem dM_work_265 : decode b_M_work 265 = .ok (.getfield 57, 3) := by decide +kernel
theorem dM_work_268 : decode b_M_work 268 = .ok (.iload_n 3, 1) := by decide +kernel
theorem dM_work_269 : decode b_M_work 269 = .ok (.laload, 1) := by decide +kernel
theorem dM_work_270 : decode b_M_work 270 = .ok (.aload_n 0, 1) := by decide +kernel
theorem dM_work_271 : decode b_M_work 271 = .ok (.getfield 57, 3) := by decide +kernel
theorem dM_work_274 : decode b_M_work 274 = .ok (.iload 4, 2) := by decide +kernel
theorem dM_work_276 : decode b_M_work 276 = .ok (.laload, 1) := by decide +kernel
theorem dM_work_277 : decode b_M_work 277 = .ok (.lcmp, 1) := by decide +kernel
theorem dM_work_278 : decode b_M_work 278 = .ok (.ifCond .gt 7, 3) := by decide +kernel
theorem dM_work_281 : decode b_M_work 281 = .ok (.iload_n 3, 1) := by decide +kernel
theorem dM_work_282 : decode b_M_work 282 = .ok (.goto 5, 3) := by decide +kernel
theorem dM_work_285 : decode b_M_work 285 = .ok (.iload 4, 2) := by decide +kernel
theorem dM_work_287 : decode b_M_work 287 = .ok (.iconst 0, 1) := by decide +kernel
theorem dM_work_288 : decode b_M_work 288 = .ok (.invokevirtual 156, 3) := by decide +kernel
theorem dM_work_291 : decode b_M_work 291 = .ok (.goto 155, 3) := by decide +kernel
theorem dM_work_294 : decode b_M_work 294 = .ok (.iload_n 2, 1) := by decide +kernel
theorem dM_work_295 : decode b_M_work 295 = .ok (.bipush 9, 2) := by decide +kernel
theorem dM_work_297 : decode b_M_work 297 = .ok (.if_icmp .ne 35, 3) := by decide +kernel
theorem dM_work_300 : decode b_M_work 300 = .ok (.aload_n 0, 1) := by decide +kernel
theorem dM_work_301 : decode b_M_work 301 = .ok (.iload_n 1, 1) := by decide +kernel
theorem dM_work_302 : decode b_M_work 302 = .ok (.aload_n 0, 1) := by decide +kernel
theorem dM_work_303 : decode b_M_work 303 = .ok (.getfield 57, 3) := by decide +kernel
theorem dM_work_306 : decode b_M_work 306 = .ok (.iload_n 3, 1) := by decide +kernel
theorem dM_work_307 : decode b_M_work 307 = .ok (.laload, 1) := by decide +kernel
theorem dM_work_308 : decode b_M_work 308 = .ok (.aload_n 0, 1) := by decide +kernel
theorem dM_work_309 : decode b_M_work 309 = .ok (.getfield 57, 3) := by decide +kernel
theorem dM_work_312 : decode b_M_work 312 = .ok (.iload 4, 2) := by decide +kernel
theorem dM_work_314 : decode b_M_work 314 = .ok (.laload, 1) := by decide +kernel
theorem dM_work_315 : decode b_M_work 315 = .ok (.lcmp, 1) := by decide +kernel
theorem dM_work_316 : decode b_M_work 316 = .ok (.ifCond .lt 7, 3) := by decide +kernel
theorem dM_work_319 : decode b_M_work 319 = .ok (.iload_n 3, 1) := by decide +kernel
theorem dM_work_320 : decode b_M_work 320 = .ok (.goto 5, 3) := by decide +kernel
theorem dM_work_323 : decode b_M_work 323 = .ok (.iload 4, 2) := by decide +kernel
theorem dM_work_325 : decode b_M_work 325 = .ok (.iconst 0, 1) := by decide +kernel
theorem dM_work_326 : decode b_M_work 326 = .ok (.invokevirtual 156, 3) := by decide +kernel
theorem dM_work_329 : decode b_M_work 329 = .ok (.goto 117, 3) := by decide +kernel
theorem dM_work_332 : decode b_M_work 332 = .ok (.iload_n 2, 1) := by decide +kernel
theorem dM_work_333 : decode b_M_work 333 = .ok (.bipush 10, 2) := by decide +kernel
theorem dM_work_335 : decode b_M_work 335 = .ok (.if_icmp .ne 39, 3) := by decide +kernel
theorem dM_work_338 : decode b_M_work 338 = .ok (.aload_n 0, 1) := by decide +kernel
theorem dM_work_339 : decode b_M_work 339 = .ok (.iload_n 1, 1) := by decide +kernel
theorem dM_work_340 : decode b_M_work 340 = .ok (.aload_n 0, 1) := by decide +kernel
theorem dM_work_341 : decode b_M_work 341 = .ok (.bipush 6, 2) := by decide +kernel
theorem dM_work_343 : decode b_M_work 343 = .ok (.iconst 4, 1) := by decide +kernel
theorem dM_work_344 : decode b_M_work 344 = .ok (.aload_n 0, 1) := by decide +kernel
theorem dM_work_345 : decode b_M_work 345 = .ok (.getfield 16, 3) := by decide +kernel
theorem dM_work_348 : decode b_M_work 348 = .ok (.iload_n 1, 1) := by decide +kernel
theorem dM_work_349 : decode b_M_work 349 = .ok (.iaload, 1) := by decide +kernel
theorem dM_work_350 : decode b_M_work 350 = .ok (.imul, 1) := by decide +kernel
theorem dM_work_351 : decode b_M_work 351 = .ok (.iadd, 1) := by decide +kernel
theorem dM_work_352 : decode b_M_work 352 = .ok (.aload_n 0, 1) := by decide +kernel
theorem dM_work_353 : decode b_M_work 353 = .ok (.getfield 57, 3) := by decide +kernel
theorem dM_work_356 : decode b_M_work 356 = .ok (.iload_n 3, 1) := by decide +kernel
theorem dM_work_357 : decode b_M_work 357 = .ok (.laload, 1) := by decide +kernel
theorem dM_work_358 : decode b_M_work 358 = .ok (.ldc2_w 174, 3) := by decide +kernel
theorem dM_work_361 : decode b_M_work 361 = .ok (.land, 1) := by decide +kernel
theorem dM_work_362 : decode b_M_work 362 = .ok (.l2i, 1) := by decide +kernel
theorem dM_work_363 : decode b_M_work 363 = .ok (.iadd, 1) := by decide +kernel
theorem dM_work_364 : decode b_M_work 364 = .ok (.invokevirtual 153, 3) := by decide +kernel
theorem dM_work_367 : decode b_M_work 367 = .ok (.iconst 1, 1) := by decide +kernel
theorem dM_work_368 : decode b_M_work 368 = .ok (.invokevirtual 156, 3) := by decide +kernel
theorem dM_work_371 : decode b_M_work 371 = .ok (.goto 75, 3) := by decide +kernel
theorem dM_work_374 : decode b_M_work 374 = .ok (.aload_n 0, 1) := by decide +kernel
theorem dM_work_375 : decode b_M_work 375 = .ok (.aload_n 0, 1) := by decide +kernel
theorem dM_work_376 : decode b_M_work 376 = .ok (.getfield 19, 3) := by decide +kernel
theorem dM_work_379 : decode b_M_work 379 = .ok (.iload_n 1, 1) := by decide +kernel
theorem dM_work_380 : decode b_M_work 380 = .ok (.iaload, 1) := by decide +kernel
theorem dM_work_381 : decode b_M_work 381 = .ok (.invokevirtual 176, 3) := by decide +kernel
theorem dM_work_384 : decode b_M_work 384 = .ok (.iconst 0, 1) := by decide +kernel
theorem dM_work_385 : decode b_M_work 385 = .ok (.istore 5, 2) := by decide +kernel
theorem dM_work_387 : decode b_M_work 387 = .ok (.iload 5, 2) := by decide +kernel
theorem dM_work_389 : decode b_M_work 389 = .ok (.iconst 4, 1) := by decide +kernel
theorem dM_work_390 : decode b_M_work 390 = .ok (.if_icmp .ge 54, 3) := by decide +kernel
theorem dM_work_393 : decode b_M_work 393 = .ok (.aload_n 0, 1) := by decide +kernel
theorem dM_work_394 : decode b_M_work 394 = .ok (.getfield 53, 3) := by decide +kernel
theorem dM_work_397 : decode b_M_work 397 = .ok (.aload_n 0, 1) := by decide +kernel
theorem dM_work_398 : decode b_M_work 398 = .ok (.iconst 0, 1) := by decide +kernel
theorem dM_work_399 : decode b_M_work 399 = .ok (.invokevirtual 153, 3) := by decide +kernel
theorem dM_work_402 : decode b_M_work 402 = .ok (.iload 5, 2) := by decide +kernel
theorem dM_work_404 : decode b_M_work 404 = .ok (.iadd, 1) := by decide +kernel
theorem dM_work_405 : decode b_M_work 405 = .ok (.aload_n 0, 1) := by decide +kernel
theorem dM_work_406 : decode b_M_work 406 = .ok (.getfield 57, 3) := by decide +kernel
theorem dM_work_409 : decode b_M_work 409 = .ok (.iload_n 3, 1) := by decide +kernel
theorem dM_work_410 : decode b_M_work 410 = .ok (.iload 5, 2) := by decide +kernel
theorem dM_work_412 : decode b_M_work 412 = .ok (.iadd, 1) := by decide +kernel
theorem dM_work_413 : decode b_M_work 413 = .ok (.laload, 1) := by decide +kernel
theorem dM_work_414 : decode b_M_work 414 = .ok (.lastore, 1) := by decide +kernel
theorem dM_work_415 : decode b_M_work 415 = .ok (.aload_n 0, 1) := by decide +kernel
theorem dM_work_416 : decode b_M_work 416 = .ok (.getfield 53, 3) := by decide +kernel
theorem dM_work_419 : decode b_M_work 419 = .ok (.aload_n 0, 1) := by decide +kernel
theorem dM_work_420 : decode b_M_work 420 = .ok (.iconst 1, 1) := by decide +kernel
theorem dM_work_421 : decode b_M_work 421 = .ok (.invokevirtual 153, 3) := by decide +kernel
theorem dM_work_424 : decode b_M_work 424 = .ok (.iload 5, 2) := by decide +kernel
theorem dM_work_426 : decode b_M_work 426 = .ok (.iadd, 1) := by decide +kernel
theorem dM_work_427 : decode b_M_work 427 = .ok (.aload_n 0, 1) := by decide +kernel
theorem dM_work_428 : decode b_M_work 428 = .ok (.getfield 57, 3) := by decide +kernel
theorem dM_work_431 : decode b_M_work 431 = .ok (.iload 4, 2) := by decide +kernel
theorem dM_work_433 : decode b_M_work 433 = .ok (.iload 5, 2) := by decide +kernel
theorem dM_work_435 : decode b_M_work 435 = .ok (.iadd, 1) := by decide +kernel
theorem dM_work_436 : decode b_M_work 436 = .ok (.laload, 1) := by decide +kernel
theorem dM_work_437 : decode b_M_work 437 = .ok (.lastore, 1) := by decide +kernel
theorem dM_work_438 : decode b_M_work 438 = .ok (.iinc 5 1, 3) := by decide +kernel
theorem dM_work_441 : decode b_M_work 441 = .ok (.goto (-54), 3) := by decide +kernel
theorem dM_work_444 : decode b_M_work 444 = .ok (.iconst 0, 1) := by decide +kernel
theorem dM_work_445 : decode b_M_work 445 = .ok (.ireturn, 1) := by decide +kernel
theorem dM_work_446 : decode b_M_work 446 = .ok (.iconst 1, 1) := by decide +kernel
theorem dM_work_447 : decode b_M_work 447 = .ok (.ireturn, 1) := by decide +kernel
