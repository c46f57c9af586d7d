theorem dM_base_0 : decode b_M_base 0 = .ok (.sipush 320, 3) := by decide +kernel
theorem dM_base_3 : decode b_M_base 3 = .ok (.aload_n 0, 1) := by decide +kernel
theorem dM_base_4 : decode b_M_base 4 = .ok (.getfield 143, 3) := by decide +kernel
theorem dM_base_7 : decode b_M_base 7 = .ok (.iconst 1, 1) := by decide +kernel
theorem dM_base_8 : decode b_M_base 8 = .ok (.isub, 1) := by decide +kernel
theorem dM_base_9 : decode b_M_base 9 = .ok (.imul, 1) := by decide +kernel
theorem dM_base_10 : decode b_M_base 10 = .ok (.iconst 4, 1) := by decide +kernel
theorem dM_base_11 : decode b_M_base 11 = .ok (.iload_n 1, 1) := by decide +kernel
theorem dM_base_12 : decode b_M_base 12 = .ok (.imul, 1) := by decide +kernel
theorem dM_base_13 : decode b_M_base 13 = .ok (.iadd, 1) := by decide +kernel
theorem dM_base_14 : decode b_M_base 14 = .ok (.ireturn, 1) := by decide +kernel
theorem dM_calls_0 : decode b_M_calls 0 = .ok (.iload_n 1, 1) := by decide +kernel
theorem dM_calls_1 : decode b_M_calls 1 = .ok (.aload_n 0, 1) := by decide +kernel
theorem dM_calls_2 : decode b_M_calls 2 = .ok (.getfield 83, 3) := by decide +kernel
theorem dM_calls_5 : decode b_M_calls 5 = .ok (.iconst 1, 1) := by decide +kernel
theorem dM_calls_6 : decode b_M_calls 6 = .ok (.isub, 1) := by decide +kernel
theorem dM_calls_7 : decode b_M_calls 7 = .ok (.invokestatic 79, 3) := by decide +kernel
theorem dM_calls_10 : decode b_M_calls 10 = .ok (.ifCond .ne 16, 3) := by decide +kernel
theorem dM_calls_13 : decode b_M_calls 13 = .ok (.iload_n 2, 1) := by decide +kernel
theorem dM_calls_14 : decode b_M_calls 14 = .ok (.aload_n 0, 1) := by decide +kernel
theorem dM_calls_15 : decode b_M_calls 15 = .ok (.getfield 83, 3) := by decide +kernel
theorem dM_calls_18 : decode b_M_calls 18 = .ok (.iconst 1, 1) := by decide +kernel
theorem dM_calls_19 : decode b_M_calls 19 = .ok (.isub, 1) := by decide +kernel
theorem dM_calls_20 : decode b_M_calls 20 = .ok (.invokestatic 79, 3) := by decide +kernel
theorem dM_calls_23 : decode b_M_calls 23 = .ok (.ifCond .eq 5, 3) := by decide +kernel
theorem dM_calls_26 : decode b_M_calls 26 = .ok (.iconst (-1), 1) := by decide +kernel
theorem dM_calls_27 : decode b_M_calls 27 = .ok (.ireturn, 1) := by decide +kernel
theorem dM_calls_28 : decode b_M_calls 28 = .ok (.iload_n 1, 1) := by decide +kernel
theorem dM_calls_29 : decode b_M_calls 29 = .ok (.istore_n 3, 1) := by decide +kernel
theorem dM_calls_30 : decode b_M_calls 30 = .ok (.aload_n 0, 1) := by decide +kernel
theorem dM_calls_31 : decode b_M_calls 31 = .ok (.getfield 22, 3) := by decide +kernel
theorem dM_calls_34 : decode b_M_calls 34 = .ok (.iload_n 3, 1) := by decide +kernel
theorem dM_calls_35 : decode b_M_calls 35 = .ok (.iaload, 1) := by decide +kernel
theorem dM_calls_36 : decode b_M_calls 36 = .ok (.ifCond .lt 13, 3) := by decide +kernel
theorem dM_calls_39 : decode b_M_calls 39 = .ok (.aload_n 0, 1) := by decide +kernel
theorem dM_calls_40 : decode b_M_calls 40 = .ok (.getfield 22, 3) := by decide +kernel
theorem dM_calls_43 : decode b_M_calls 43 = .ok (.iload_n 3, 1) := by decide +kernel
theorem dM_calls_44 : decode b_M_calls 44 = .ok (.iaload, 1) := by decide +kernel
theorem dM_calls_45 : decode b_M_calls 45 = .ok (.istore_n 3, 1) := by decide +kernel
theorem dM_calls_46 : decode b_M_calls 46 = .ok (.goto (-16), 3) := by decide +kernel
theorem dM_calls_49 : decode b_M_calls 49 = .ok (.aload_n 0, 1) := by decide +kernel
theorem dM_calls_50 : decode b_M_calls 50 = .ok (.iload_n 3, 1) := by decide +kernel
theorem dM_calls_51 : decode b_M_calls 51 = .ok (.invokevirtual 136, 3) := by decide +kernel
theorem dM_calls_54 : decode b_M_calls 54 = .ok (.aload_n 0, 1) := by decide +kernel
theorem dM_calls_55 : decode b_M_calls 55 = .ok (.getfield 50, 3) := by decide +kernel
theorem dM_calls_58 : decode b_M_calls 58 = .ok (.iload_n 2, 1) := by decide +kernel
theorem dM_calls_59 : decode b_M_calls 59 = .ok (.baload, 1) := by decide +kernel
theorem dM_calls_60 : decode b_M_calls 60 = .ok (.ifCond .eq 7, 3) := by decide +kernel
theorem dM_calls_63 : decode b_M_calls 63 = .ok (.iconst 1, 1) := by decide +kernel
theorem dM_calls_64 : decode b_M_calls 64 = .ok (.goto 4, 3) := by decide +kernel
theorem dM_calls_67 : decode b_M_calls 67 = .ok (.iconst 0, 1) := by decide +kernel
theorem dM_calls_68 : decode b_M_calls 68 = .ok (.ireturn, 1) := by decide +kernel
theorem dM_cap_0 : decode b_M_cap 0 = .ok (.iload_n 0, 1) := by decide +kernel
theorem dM_cap_1 : decode b_M_cap 1 = .ok (.sipush 1000, 3) := by decide +kernel
theorem dM_cap_4 : decode b_M_cap 4 = .ok (.if_icmp .le 9, 3) := by decide +kernel
theorem dM_cap_7 : decode b_M_cap 7 = .ok (.sipush 1000, 3) := by decide +kernel
theorem dM_cap_10 : decode b_M_cap 10 = .ok (.goto 4, 3) := by decide +kernel
theorem dM_cap_13 : decode b_M_cap 13 = .ok (.iload_n 0, 1) := by decide +kernel
theorem dM_cap_14 : decode b_M_cap 14 = .ok (.ireturn, 1) := by decide +kernel
theorem dM_close_0 : decode b_M_close 0 = .ok (.iconst 0, 1) := by decide +kernel
theorem dM_close_1 : decode b_M_close 1 = .ok (.istore 4, 2) := by decide +kernel
theorem dM_close_3 : decode b_M_close 3 = .ok (.iload_n 2, 1) := by decide +kernel
theorem dM_close_4 : decode b_M_close 4 = .ok (.iconst 1, 1) := by decide +kernel
theorem dM_close_5 : decode b_M_close 5 = .ok (.iadd, 1) := by decide +kernel
theorem dM_close_6 : decode b_M_close 6 = .ok (.istore 5, 2) := by decide +kernel
theorem dM_close_8 : decode b_M_close 8 = .ok (.iload 5, 2) := by decide +kernel
theorem dM_close_10 : decode b_M_close 10 = .ok (.aload_n 0, 1) := by decide +kernel
theorem dM_close_11 : decode b_M_close 11 = .ok (.getfield 37, 3) := by decide +kernel
theorem dM_close_14 : decode b_M_close 14 = .ok (.iload_n 1, 1) := by decide +kernel
theorem dM_close_15 : decode b_M_close 15 = .ok (.iaload, 1) := by decide +kernel
theorem dM_close_16 : decode b_M_close 16 = .ok (.bipush 12, 2) := by decide +kernel
theorem dM_close_18 : decode b_M_close 18 = .ok (.iadd, 1) := by decide +kernel
theorem dM_close_19 : decode b_M_close 19 = .ok (.if_icmp .ge 62, 3) := by decide +kernel
theorem dM_close_22 : decode b_M_close 22 = .ok (.aload_n 0, 1) := by decide +kernel
theorem dM_close_23 : decode b_M_close 23 = .ok (.iload_n 1, 1) := by decide +kernel
theorem dM_close_24 : decode b_M_close 24 = .ok (.iload 5, 2) := by decide +kernel
theorem dM_close_26 : decode b_M_close 26 = .ok (.invokevirtual 100, 3) := by decide +kernel
theorem dM_close_29 : decode b_M_close 29 = .ok (.istore 6, 2) := by decide +kernel
theorem dM_close_31 : decode b_M_close 31 = .ok (.iload 4, 2) := by decide +kernel
theorem dM_close_33 : decode b_M_close 33 = .ok (.ifCond .ne 22, 3) := by decide +kernel
theorem dM_close_36 : decode b_M_close 36 = .ok (.iload 6, 2) := by decide +kernel
theorem dM_close_38 : decode b_M_close 38 = .ok (.iconst 5, 1) := by decide +kernel
theorem dM_close_39 : decode b_M_close 39 = .ok (.if_icmp .eq 13, 3) := by decide +kernel
theorem dM_close_42 : decode b_M_close 42 = .ok (.iload 6, 2) := by decide +kernel
theorem dM_close_44 : decode b_M_close 44 = .ok (.iconst 3, 1) := by decide +kernel
theorem dM_close_45 : decode b_M_close 45 = .ok (.if_icmp .ne 10, 3) := by decide +kernel
theorem dM_close_48 : decode b_M_close 48 = .ok (.iload_n 3, 1) := by decide +kernel
theorem dM_close_49 : decode b_M_close 49 = .ok (.ifCond .eq 6, 3) := by decide +kernel
theorem dM_close_52 : decode b_M_close 52 = .ok (.iload 5, 2) := by decide +kernel
theorem dM_close_54 : decode b_M_close 54 = .ok (.ireturn, 1) := by decide +kernel
theorem dM_close_55 : decode b_M_close 55 = .ok (.iload 6, 2) := by decide +kernel
theorem dM_close_57 : decode b_M_close 57 = .ok (.iconst 5, 1) := by decide +kernel
theorem dM_close_58 : decode b_M_close 58 = .ok (.if_icmp .ne 6, 3) := by decide +kernel
theorem dM_close_61 : decode b_M_close 61 = .ok (.iinc 4 (-1), 3) := by decide +kernel
theorem dM_close_64 : decode b_M_close 64 = .ok (.iload 6, 2) := by decide +kernel
theorem dM_close_66 : decode b_M_close 66 = .ok (.invokestatic 104, 3) := by decide +kernel
theorem dM_close_69 : decode b_M_close 69 = .ok (.ifCond .eq 6, 3) := by decide +kernel
theorem dM_close_72 : decode b_M_close 72 = .ok (.iinc 4 1, 3) := by decide +kernel
theorem dM_close_75 : decode b_M_close 75 = .ok (.iinc 5 1, 3) := by decide +kernel
theorem dM_close_78 : decode b_M_close 78 = .ok (.goto (-70), 3) := by decide +kernel
theorem dM_close_81 : decode b_M_close 81 = .ok (.aload_n 0, 1) := by decide +kernel
theorem dM_close_82 : decode b_M_close 82 = .ok (.getfield 37, 3) := by decide +kernel
theorem dM_close_85 : decode b_M_close 85 = .ok (.iload_n 1, 1) := by decide +kernel
theorem dM_close_86 : decode b_M_close 86 = .ok (.iaload, 1) := by decide +kernel
theorem dM_close_87 : decode b_M_close 87 = .ok (.bipush 12, 2) := by decide +kernel
theorem dM_close_89 : decode b_M_close 89 = .ok (.iadd, 1) := by decide +kernel
theorem dM_close_90 : decode b_M_close 90 = .ok (.ireturn, 1) := by decide +kernel
theorem dM_combine_0 : decode b_M_combine 0 = .ok (.iconst 0, 1) := by decide +kernel
theorem dM_combine_1 : decode b_M_combine 1 = .ok (.istore 6, 2) := by decide +kernel
theorem dM_combine_3 : decode b_M_combine 3 = .ok (.iload 6, 2) := by decide +kernel
theorem dM_combine_5 : decode b_M_combine 5 = .ok (.iconst 4, 1) := by decide +kernel
theorem dM_combine_6 : decode b_M_combine 6 = .ok (.if_icmp .ge 44, 3) := by decide +kernel
theorem dM_combine_9 : decode b_M_combine 9 = .ok (.aload_n 0, 1) := by decide +kernel
theorem dM_combine_10 : decode b_M_combine 10 = .ok (.getfield 57, 3) := by decide +kernel
theorem dM_combine_13 : decode b_M_combine 13 = .ok (.aload_n 0, 1) := by decide +kernel
theorem dM_combine_14 : decode b_M_combine 14 = .ok (.iload_n 1, 1) := by decide +kernel
theorem dM_combine_15 : decode b_M_combine 15 = .ok (.invokevirtual 146, 3) := by decide +kernel
theorem dM_combine_18 : decode b_M_combine 18 = .ok (.iload 6, 2) := by decide +kernel
theorem dM_combine_20 : decode b_M_combine 20 = .ok (.iadd, 1) := by decide +kernel
theorem dM_combine_21 : decode b_M_combine 21 = .ok (.aload_n 0, 1) := by decide +kernel
theorem dM_combine_22 : decode b_M_combine 22 = .ok (.getfield 57, 3) := by decide +kernel
theorem dM_combine_25 : decode b_M_combine 25 = .ok (.iload_n 2, 1) := by decide +kernel
theorem dM_combine_26 : decode b_M_combine 26 = .ok (.iload 6, 2) := by decide +kernel
theorem dM_combine_28 : decode b_M_combine 28 = .ok (.iadd, 1) := by decide +kernel
theorem dM_combine_29 : decode b_M_combine 29 = .ok (.laload, 1) := by decide +kernel
theorem dM_combine_30 : decode b_M_combine 30 = .ok (.lload 4, 2) := by decide +kernel
theorem dM_combine_32 : decode b_M_combine 32 = .ok (.aload_n 0, 1) := by decide +kernel
theorem dM_combine_33 : decode b_M_combine 33 = .ok (.getfield 57, 3) := by decide +kernel
theorem dM_combine_36 : decode b_M_combine 36 = .ok (.iload_n 3, 1) := by decide +kernel
theorem dM_combine_37 : decode b_M_combine 37 = .ok (.iload 6, 2) := by decide +kernel
theorem dM_combine_39 : decode b_M_combine 39 = .ok (.iadd, 1) := by decide +kernel
theorem dM_combine_40 : decode b_M_combine 40 = .ok (.laload, 1) := by decide +kernel
theorem dM_combine_41 : decode b_M_combine 41 = .ok (.lmul, 1) := by decide +kernel
theorem dM_combine_42 : decode b_M_combine 42 = .ok (.ladd, 1) := by decide +kernel
theorem dM_combine_43 : decode b_M_combine 43 = .ok (.lastore, 1) := by decide +kernel
theorem dM_combine_44 : decode b_M_combine 44 = .ok (.iinc 6 1, 3) := by decide +kernel
theorem dM_combine_47 : decode b_M_combine 47 = .ok (.goto (-44), 3) := by decide +kernel
theorem dM_combine_50 : decode b_M_combine 50 = .ok (.return_, 1) := by decide +kernel
theorem dM_constant_0 : decode b_M_constant 0 = .ok (.aload_n 0, 1) := by decide +kernel
theorem dM_constant_1 : decode b_M_constant 1 = .ok (.getfield 57, 3) := by decide +kernel
theorem dM_constant_4 : decode b_M_constant 4 = .ok (.aload_n 0, 1) := by decide +kernel
theorem dM_constant_5 : decode b_M_constant 5 = .ok (.iload_n 1, 1) := by decide +kernel
theorem dM_constant_6 : decode b_M_constant 6 = .ok (.invokevirtual 146, 3) := by decide +kernel
theorem dM_constant_9 : decode b_M_constant 9 = .ok (.lload_n 2, 1) := by decide +kernel
theorem dM_constant_10 : decode b_M_constant 10 = .ok (.lastore, 1) := by decide +kernel
theorem dM_constant_11 : decode b_M_constant 11 = .ok (.iconst 1, 1) := by decide +kernel
theorem dM_constant_12 : decode b_M_constant 12 = .ok (.istore 4, 2) := by decide +kernel
theorem dM_constant_14 : decode b_M_constant 14 = .ok (.iload 4, 2) := by decide +kernel
theorem dM_constant_16 : decode b_M_constant 16 = .ok (.iconst 4, 1) := by decide +kernel
theorem dM_constant_17 : decode b_M_constant 17 = .ok (.if_icmp .ge 23, 3) := by decide +kernel
theorem dM_constant_20 : decode b_M_constant 20 = .ok (.aload_n 0, 1) := by decide +kernel
theorem dM_constant_21 : decode b_M_constant 21 = .ok (.getfield 57, 3) := by decide +kernel
theorem dM_constant_24 : decode b_M_constant 24 = .ok (.aload_n 0, 1) := by decide +kernel
theorem dM_constant_25 : decode b_M_constant 25 = .ok (.iload_n 1, 1) := by decide +kernel
theorem dM_constant_26 : decode b_M_constant 26 = .ok (.invokevirtual 146, 3) := by decide +kernel
theorem dM_constant_29 : decode b_M_constant 29 = .ok (.iload 4, 2) := by decide +kernel
theorem dM_constant_31 : decode b_M_constant 31 = .ok (.iadd, 1) := by decide +kernel
theorem dM_constant_32 : decode b_M_constant 32 = .ok (.lconst 0, 1) := by decide +kernel
theorem dM_constant_33 : decode b_M_constant 33 = .ok (.lastore, 1) := by decide +kernel
theorem dM_constant_34 : decode b_M_constant 34 = .ok (.iinc 4 1, 3) := by decide +kernel
theorem dM_constant_37 : decode b_M_constant 37 = .ok (.goto (-23), 3) := by decide +kernel
theorem dM_constant_40 : decode b_M_constant 40 = .ok (.return_, 1) := by decide +kernel
theorem dM_copy_0 : decode b_M_copy 0 = .ok (.iconst 0, 1) := by decide +kernel
theorem dM_copy_1 : decode b_M_copy 1 = .ok (.istore 4, 2) := by decide +kernel
theorem dM_copy_3 : decode b_M_copy 3 = .ok (.iload 4, 2) := by decide +kernel
theorem dM_copy_5 : decode b_M_copy 5 = .ok (.iconst 4, 1) := by decide +kernel
theorem dM_copy_6 : decode b_M_copy 6 = .ok (.if_icmp .ge 47, 3) := by decide +kernel
theorem dM_copy_9 : decode b_M_copy 9 = .ok (.aload_n 0, 1) := by decide +kernel
theorem dM_copy_10 : decode b_M_copy 10 = .ok (.getfield 57, 3) := by decide +kernel
theorem dM_copy_13 : decode b_M_copy 13 = .ok (.aload_n 0, 1) := by decide +kernel
theorem dM_copy_14 : decode b_M_copy 14 = .ok (.iload_n 1, 1) := by decide +kernel
theorem dM_copy_15 : decode b_M_copy 15 = .ok (.invokevirtual 146, 3) := by decide +kernel
theorem dM_copy_18 : decode b_M_copy 18 = .ok (.iload 4, 2) := by decide +kernel
theorem dM_copy_20 : decode b_M_copy 20 = .ok (.iadd, 1) := by decide +kernel
theorem dM_copy_21 : decode b_M_copy 21 = .ok (.iload_n 3, 1) := by decide +kernel
theorem dM_copy_22 : decode b_M_copy 22 = .ok (.ifCond .eq 15, 3) := by decide +kernel
theorem dM_copy_25 : decode b_M_copy 25 = .ok (.aload_n 0, 1) := by decide +kernel
theorem dM_copy_26 : decode b_M_copy 26 = .ok (.getfield 53, 3) := by decide +kernel
theorem dM_copy_29 : decode b_M_copy 29 = .ok (.iload_n 2, 1) := by decide +kernel
theorem dM_copy_30 : decode b_M_copy 30 = .ok (.iload 4, 2) := by decide +kernel
theorem dM_copy_32 : decode b_M_copy 32 = .ok (.iadd, 1) := by decide +kernel
theorem dM_copy_33 : decode b_M_copy 33 = .ok (.laload, 1) := by decide +kernel
theorem dM_copy_34 : decode b_M_copy 34 = .ok (.goto 12, 3) := by decide +kernel
theorem dM_copy_37 : decode b_M_copy 37 = .ok (.aload_n 0, 1) := by decide +kernel
theorem dM_copy_38 : decode b_M_copy 38 = .ok (.getfield 57, 3) := by decide +kernel
theorem dM_copy_41 : decode b_M_copy 41 = .ok (.iload_n 2, 1) := by decide +kernel
theorem dM_copy_42 : decode b_M_copy 42 = .ok (.iload 4, 2) := by decide +kernel
theorem dM_copy_44 : decode b_M_copy 44 = .ok (.iadd, 1) := by decide +kernel
theorem dM_copy_45 : decode b_M_copy 45 = .ok (.laload, 1) := by decide +kernel
theorem dM_copy_46 : decode b_M_copy 46 = .ok (.lastore, 1) := by decide +kernel
theorem dM_copy_47 : decode b_M_copy 47 = .ok (.iinc 4 1, 3) := by decide +kernel
theorem dM_copy_50 : decode b_M_copy 50 = .ok (.goto (-47), 3) := by decide +kernel
theorem dM_copy_53 : decode b_M_copy 53 = .ok (.return_, 1) := by decide +kernel
theorem dM_cost_0 : decode b_M_cost 0 = .ok (.aload_n 0, 1) := by decide +kernel
theorem dM_cost_1 : decode b_M_cost 1 = .ok (.iload_n 1, 1) := by decide +kernel
theorem dM_cost_2 : decode b_M_cost 2 = .ok (.invokevirtual 93, 3) := by decide +kernel
theorem dM_cost_5 : decode b_M_cost 5 = .ok (.ifCond .eq 5, 3) := by decide +kernel
theorem dM_cost_8 : decode b_M_cost 8 = .ok (.iconst (-1), 1) := by decide +kernel
theorem dM_cost_9 : decode b_M_cost 9 = .ok (.ireturn, 1) := by decide +kernel
theorem dM_cost_10 : decode b_M_cost 10 = .ok (.aload_n 0, 1) := by decide +kernel
theorem dM_cost_11 : decode b_M_cost 11 = .ok (.invokevirtual 139, 3) := by decide +kernel
theorem dM_cost_14 : decode b_M_cost 14 = .ok (.istore_n 2, 1) := by decide +kernel
theorem dM_cost_15 : decode b_M_cost 15 = .ok (.iload_n 2, 1) := by decide +kernel
theorem dM_cost_16 : decode b_M_cost 16 = .ok (.ifCond .eq 7, 3) := by decide +kernel
theorem dM_cost_19 : decode b_M_cost 19 = .ok (.iconst (-1), 1) := by decide +kernel
theorem dM_cost_20 : decode b_M_cost 20 = .ok (.goto 9, 3) := by decide +kernel
theorem dM_cost_23 : decode b_M_cost 23 = .ok (.aload_n 0, 1) := by decide +kernel
theorem dM_cost_24 : decode b_M_cost 24 = .ok (.getfield 43, 3) := by decide +kernel
theorem dM_cost_27 : decode b_M_cost 27 = .ok (.iload_n 1, 1) := by decide +kernel
theorem dM_cost_28 : decode b_M_cost 28 = .ok (.iaload, 1) := by decide +kernel
theorem dM_cost_29 : decode b_M_cost 29 = .ok (.ireturn, 1) := by decide +kernel
theorem dM_costOf_0 : decode b_M_costOf 0 = .ok (.aload_n 0, 1) := by decide +kernel
theorem dM_costOf_1 : decode b_M_costOf 1 = .ok (.getfield 7, 3) := by decide +kernel
theorem dM_costOf_4 : decode b_M_costOf 4 = .ok (.iload_n 1, 1) := by decide +kernel
theorem dM_costOf_5 : decode b_M_costOf 5 = .ok (.iaload, 1) := by decide +kernel
theorem dM_costOf_6 : decode b_M_costOf 6 = .ok (.istore_n 2, 1) := by decide +kernel
theorem dM_costOf_7 : decode b_M_costOf 7 = .ok (.iload_n 2, 1) := by decide +kernel
theorem dM_costOf_8 : decode b_M_costOf 8 = .ok (.iconst 2, 1) := by decide +kernel
theorem dM_costOf_9 : decode b_M_costOf 9 = .ok (.if_icmp .ge 5, 3) := by decide +kernel
theorem dM_costOf_12 : decode b_M_costOf 12 = .ok (.iconst 1, 1) := by decide +kernel
theorem dM_costOf_13 : decode b_M_costOf 13 = .ok (.ireturn, 1) := by decide +kernel
theorem dM_costOf_14 : decode b_M_costOf 14 = .ok (.aload_n 0, 1) := by decide +kernel
theorem dM_costOf_15 : decode b_M_costOf 15 = .ok (.getfield 40, 3) := by decide +kernel
theorem dM_costOf_18 : decode b_M_costOf 18 = .ok (.aload_n 0, 1) := by decide +kernel
theorem dM_costOf_19 : decode b_M_costOf 19 = .ok (.getfield 13, 3) := by decide +kernel
theorem dM_costOf_22 : decode b_M_costOf 22 = .ok (.iload_n 1, 1) := by decide +kernel
theorem dM_costOf_23 : decode b_M_costOf 23 = .ok (.iaload, 1) := by decide +kernel
theorem dM_costOf_24 : decode b_M_costOf 24 = .ok (.iaload, 1) := by decide +kernel
theorem dM_costOf_25 : decode b_M_costOf 25 = .ok (.istore_n 3, 1) := by decide +kernel
theorem dM_costOf_26 : decode b_M_costOf 26 = .ok (.iload_n 2, 1) := by decide +kernel
theorem dM_costOf_27 : decode b_M_costOf 27 = .ok (.invokestatic 90, 3) := by decide +kernel
theorem dM_costOf_30 : decode b_M_costOf 30 = .ok (.ifCond .eq 17, 3) := by decide +kernel
theorem dM_costOf_33 : decode b_M_costOf 33 = .ok (.aload_n 0, 1) := by decide +kernel
theorem dM_costOf_34 : decode b_M_costOf 34 = .ok (.getfield 40, 3) := by decide +kernel
theorem dM_costOf_37 : decode b_M_costOf 37 = .ok (.aload_n 0, 1) := by decide +kernel
theorem dM_costOf_38 : decode b_M_costOf 38 = .ok (.getfield 16, 3) := by decide +kernel
theorem dM_costOf_41 : decode b_M_costOf 41 = .ok (.iload_n 1, 1) := by decide +kernel
theorem dM_costOf_42 : decode b_M_costOf 42 = .ok (.iaload, 1) := by decide +kernel
theorem dM_costOf_43 : decode b_M_costOf 43 = .ok (.iaload, 1) := by decide +kernel
theorem dM_costOf_44 : decode b_M_costOf 44 = .ok (.goto 4, 3) := by decide +kernel
theorem dM_costOf_47 : decode b_M_costOf 47 = .ok (.iconst 0, 1) := by decide +kernel
theorem dM_costOf_48 : decode b_M_costOf 48 = .ok (.istore 4, 2) := by decide +kernel
theorem dM_costOf_50 : decode b_M_costOf 50 = .ok (.iload_n 2, 1) := by decide +kernel
theorem dM_costOf_51 : decode b_M_costOf 51 = .ok (.bipush 6, 2) := by decide +kernel
theorem dM_costOf_53 : decode b_M_costOf 53 = .ok (.if_icmp .ne 31, 3) := by decide +kernel
theorem dM_costOf_56 : decode b_M_costOf 56 = .ok (.iconst 1, 1) := by decide +kernel
theorem dM_costOf_57 : decode b_M_costOf 57 = .ok (.aload_n 0, 1) := by decide +kernel
theorem dM_costOf_58 : decode b_M_costOf 58 = .ok (.getfield 16, 3) := by decide +kernel
theorem dM_costOf_61 : decode b_M_costOf 61 = .ok (.iload_n 1, 1) := by decide +kernel
theorem dM_costOf_62 : decode b_M_costOf 62 = .ok (.iaload, 1) := by decide +kernel
theorem dM_costOf_63 : decode b_M_costOf 63 = .ok (.iconst 1, 1) := by decide +kernel
theorem dM_costOf_64 : decode b_M_costOf 64 = .ok (.if_icmp .le 14, 3) := by decide +kernel
theorem dM_costOf_67 : decode b_M_costOf 67 = .ok (.aload_n 0, 1) := by decide +kernel
theorem dM_costOf_68 : decode b_M_costOf 68 = .ok (.getfield 16, 3) := by decide +kernel
theorem dM_costOf_71 : decode b_M_costOf 71 = .ok (.iload_n 1, 1) := by decide +kernel
theorem dM_costOf_72 : decode b_M_costOf 72 = .ok (.iaload, 1) := by decide +kernel
theorem dM_costOf_73 : decode b_M_costOf 73 = .ok (.iload_n 3, 1) := by decide +kernel
theorem dM_costOf_74 : decode b_M_costOf 74 = .ok (.imul, 1) := by decide +kernel
theorem dM_costOf_75 : decode b_M_costOf 75 = .ok (.goto 4, 3) := by decide +kernel
theorem dM_costOf_78 : decode b_M_costOf 78 = .ok (.iload_n 3, 1) := by decide +kernel
theorem dM_costOf_79 : decode b_M_costOf 79 = .ok (.iadd, 1) := by decide +kernel
theorem dM_costOf_80 : decode b_M_costOf 80 = .ok (.invokestatic 121, 3) := by decide +kernel
theorem dM_costOf_83 : decode b_M_costOf 83 = .ok (.ireturn, 1) := by decide +kernel
theorem dM_costOf_84 : decode b_M_costOf 84 = .ok (.iload_n 2, 1) := by decide +kernel
theorem dM_costOf_85 : decode b_M_costOf 85 = .ok (.bipush 7, 2) := by decide +kernel
theorem dM_costOf_87 : decode b_M_costOf 87 = .ok (.if_icmp .lt 21, 3) := by decide +kernel
theorem dM_costOf_90 : decode b_M_costOf 90 = .ok (.iload_n 2, 1) := by decide +kernel
theorem dM_costOf_91 : decode b_M_costOf 91 = .ok (.bipush 9, 2) := by decide +kernel
theorem dM_costOf_93 : decode b_M_costOf 93 = .ok (.if_icmp .gt 15, 3) := by decide +kernel
theorem dM_costOf_96 : decode b_M_costOf 96 = .ok (.iconst 1, 1) := by decide +kernel
theorem dM_costOf_97 : decode b_M_costOf 97 = .ok (.iconst 2, 1) := by decide +kernel
theorem dM_costOf_98 : decode b_M_costOf 98 = .ok (.iload_n 3, 1) := by decide +kernel
theorem dM_costOf_99 : decode b_M_costOf 99 = .ok (.iload 4, 2) := by decide +kernel
theorem dM_costOf_101 : decode b_M_costOf 101 = .ok (.iadd, 1) := by decide +kernel
theorem dM_costOf_102 : decode b_M_costOf 102 = .ok (.imul, 1) := by decide +kernel
theorem dM_costOf_103 : decode b_M_costOf 103 = .ok (.iadd, 1) := by decide +kernel
theorem dM_costOf_104 : decode b_M_costOf 104 = .ok (.invokestatic 121, 3) := by decide +kernel
theorem dM_costOf_107 : decode b_M_costOf 107 = .ok (.ireturn, 1) := by decide +kernel
theorem dM_costOf_108 : decode b_M_costOf 108 = .ok (.iconst 1, 1) := by decide +kernel
theorem dM_costOf_109 : decode b_M_costOf 109 = .ok (.iload_n 3, 1) := by decide +kernel
theorem dM_costOf_110 : decode b_M_costOf 110 = .ok (.iadd, 1) := by decide +kernel
theorem dM_costOf_111 : decode b_M_costOf 111 = .ok (.iload 4, 2) := by decide +kernel
theorem dM_costOf_113 : decode b_M_costOf 113 = .ok (.iadd, 1) := by decide +kernel
theorem dM_costOf_114 : decode b_M_costOf 114 = .ok (.iload_n 2, 1) := by decide +kernel
theorem dM_costOf_115 : decode b_M_costOf 115 = .ok (.bipush 11, 2) := by decide +kernel
theorem dM_costOf_117 : decode b_M_costOf 117 = .ok (.if_icmp .ne 17, 3) := by decide +kernel
theorem dM_costOf_120 : decode b_M_costOf 120 = .ok (.aload_n 0, 1) := by decide +kernel
theorem dM_costOf_121 : decode b_M_costOf 121 = .ok (.getfield 43, 3) := by decide +kernel
theorem dM_costOf_124 : decode b_M_costOf 124 = .ok (.aload_n 0, 1) := by decide +kernel
theorem dM_costOf_125 : decode b_M_costOf 125 = .ok (.getfield 19, 3) := by decide +kernel
theorem dM_costOf_128 : decode b_M_costOf 128 = .ok (.iload_n 1, 1) := by decide +kernel
theorem dM_costOf_129 : decode b_M_costOf 129 = .ok (.iaload, 1) := by decide +kernel
theorem dM_costOf_130 : decode b_M_costOf 130 = .ok (.iaload, 1) := by decide +kernel
theorem dM_costOf_131 : decode b_M_costOf 131 = .ok (.goto 4, 3) := by decide +kernel
theorem dM_costOf_134 : decode b_M_costOf 134 = .ok (.iconst 0, 1) := by decide +kernel
theorem dM_costOf_135 : decode b_M_costOf 135 = .ok (.iadd, 1) := by decide +kernel
theorem dM_costOf_136 : decode b_M_costOf 136 = .ok (.invokestatic 121, 3) := by decide +kernel
theorem dM_costOf_139 : decode b_M_costOf 139 = .ok (.ireturn, 1) := by decide +kernel
theorem dM_count_0 : decode b_M_count 0 = .ok (.iconst 0, 1) := by decide +kernel
theorem dM_count_1 : decode b_M_count 1 = .ok (.istore_n 2, 1) := by decide +kernel
theorem dM_count_2 : decode b_M_count 2 = .ok (.iload_n 1, 1) := by decide +kernel
theorem dM_count_3 : decode b_M_count 3 = .ok (.ifCond .ne 8, 3) := by decide +kernel
theorem dM_count_6 : decode b_M_count 6 = .ok (.aload_n 0, 1) := by decide +kernel
theorem dM_count_7 : decode b_M_count 7 = .ok (.getfield 75, 3) := by decide +kernel
theorem dM_count_10 : decode b_M_count 10 = .ok (.ireturn, 1) := by decide +kernel
theorem dM_count_11 : decode b_M_count 11 = .ok (.iload_n 1, 1) := by decide +kernel
theorem dM_count_12 : decode b_M_count 12 = .ok (.iconst 1, 1) := by decide +kernel
theorem dM_count_13 : decode b_M_count 13 = .ok (.if_icmp .ne 8, 3) := by decide +kernel
theorem dM_count_16 : decode b_M_count 16 = .ok (.aload_n 0, 1) := by decide +kernel
theorem dM_count_17 : decode b_M_count 17 = .ok (.getfield 83, 3) := by decide +kernel
theorem dM_count_20 : decode b_M_count 20 = .ok (.ireturn, 1) := by decide +kernel
theorem dM_count_21 : decode b_M_count 21 = .ok (.iload_n 1, 1) := by decide +kernel
theorem dM_count_22 : decode b_M_count 22 = .ok (.iconst 2, 1) := by decide +kernel
theorem dM_count_23 : decode b_M_count 23 = .ok (.if_icmp .eq 10, 3) := by decide +kernel
theorem dM_count_26 : decode b_M_count 26 = .ok (.iload_n 1, 1) := by decide +kernel
theorem dM_count_27 : decode b_M_count 27 = .ok (.iconst 3, 1) := by decide +kernel
theorem dM_count_28 : decode b_M_count 28 = .ok (.if_icmp .eq 5, 3) := by decide +kernel
theorem dM_count_31 : decode b_M_count 31 = .ok (.iconst (-1), 1) := by decide +kernel
theorem dM_count_32 : decode b_M_count 32 = .ok (.ireturn, 1) := by decide +kernel
theorem dM_count_33 : decode b_M_count 33 = .ok (.iconst 0, 1) := by decide +kernel
theorem dM_count_34 : decode b_M_count 34 = .ok (.istore_n 3, 1) := by decide +kernel
theorem dM_count_35 : decode b_M_count 35 = .ok (.iload_n 3, 1) := by decide +kernel
theorem dM_count_36 : decode b_M_count 36 = .ok (.aload_n 0, 1) := by decide +kernel
theorem dM_count_37 : decode b_M_count 37 = .ok (.getfield 83, 3) := by decide +kernel
theorem dM_count_40 : decode b_M_count 40 = .ok (.if_icmp .ge 40, 3) := by decide +kernel
theorem dM_count_43 : decode b_M_count 43 = .ok (.aload_n 0, 1) := by decide +kernel
theorem dM_count_44 : decode b_M_count 44 = .ok (.getfield 22, 3) := by decide +kernel
theorem dM_count_47 : decode b_M_count 47 = .ok (.iload_n 3, 1) := by decide +kernel
theorem dM_count_48 : decode b_M_count 48 = .ok (.iaload, 1) := by decide +kernel
theorem dM_count_49 : decode b_M_count 49 = .ok (.ifCond .ge 25, 3) := by decide +kernel
theorem dM_count_52 : decode b_M_count 52 = .ok (.iload_n 2, 1) := by decide +kernel
theorem dM_count_53 : decode b_M_count 53 = .ok (.iload_n 1, 1) := by decide +kernel
theorem dM_count_54 : decode b_M_count 54 = .ok (.iconst 2, 1) := by decide +kernel
theorem dM_count_55 : decode b_M_count 55 = .ok (.if_icmp .ne 12, 3) := by decide +kernel
theorem dM_count_58 : decode b_M_count 58 = .ok (.aload_n 0, 1) := by decide +kernel
theorem dM_count_59 : decode b_M_count 59 = .ok (.getfield 37, 3) := by decide +kernel
theorem dM_count_62 : decode b_M_count 62 = .ok (.iload_n 3, 1) := by decide +kernel
theorem dM_count_63 : decode b_M_count 63 = .ok (.iaload, 1) := by decide +kernel
theorem dM_count_64 : decode b_M_count 64 = .ok (.goto 8, 3) := by decide +kernel
theorem dM_count_67 : decode b_M_count 67 = .ok (.aload_n 0, 1) := by decide +kernel
theorem dM_count_68 : decode b_M_count 68 = .ok (.iload_n 3, 1) := by decide +kernel
theorem dM_count_69 : decode b_M_count 69 = .ok (.invokevirtual 192, 3) := by decide +kernel
theorem dM_count_72 : decode b_M_count 72 = .ok (.iadd, 1) := by decide +kernel
theorem dM_count_73 : decode b_M_count 73 = .ok (.istore_n 2, 1) := by decide +kernel
theorem dM_count_74 : decode b_M_count 74 = .ok (.iinc 3 1, 3) := by decide +kernel
theorem dM_count_77 : decode b_M_count 77 = .ok (.goto (-42), 3) := by decide +kernel
theorem dM_count_80 : decode b_M_count 80 = .ok (.iload_n 2, 1) := by decide +kernel
theorem dM_count_81 : decode b_M_count 81 = .ok (.ireturn, 1) := by decide +kernel
theorem dM_derive_0 : decode b_M_derive 0 = .ok (.iload_n 1, 1) := by decide +kernel
theorem dM_derive_1 : decode b_M_derive 1 = .ok (.aload_n 0, 1) := by decide +kernel
theorem dM_derive_2 : decode b_M_derive 2 = .ok (.getfield 83, 3) := by decide +kernel
theorem dM_derive_5 : decode b_M_derive 5 = .ok (.iconst 1, 1) := by decide +kernel
theorem dM_derive_6 : decode b_M_derive 6 = .ok (.isub, 1) := by decide +kernel
theorem dM_derive_7 : decode b_M_derive 7 = .ok (.invokestatic 79, 3) := by decide +kernel
theorem dM_derive_10 : decode b_M_derive 10 = .ok (.ifCond .ne 29, 3) := by decide +kernel
theorem dM_derive_13 : decode b_M_derive 13 = .ok (.iload_n 2, 1) := by decide +kernel
theorem dM_derive_14 : decode b_M_derive 14 = .ok (.iconst 1, 1) := by decide +kernel
theorem dM_derive_15 : decode b_M_derive 15 = .ok (.invokestatic 79, 3) := by decide +kernel
theorem dM_derive_18 : decode b_M_derive 18 = .ok (.ifCond .ne 21, 3) := by decide +kernel
theorem dM_derive_21 : decode b_M_derive 21 = .ok (.aload_n 0, 1) := by decide +kernel
theorem dM_derive_22 : decode b_M_derive 22 = .ok (.iload_n 1, 1) := by decide +kernel
theorem dM_derive_23 : decode b_M_derive 23 = .ok (.invokevirtual 96, 3) := by decide +kernel
theorem dM_derive_26 : decode b_M_derive 26 = .ok (.iconst 2, 1) := by decide +kernel
theorem dM_derive_27 : decode b_M_derive 27 = .ok (.if_icmp .eq 12, 3) := by decide +kernel
theorem dM_derive_30 : decode b_M_derive 30 = .ok (.aload_n 0, 1) := by decide +kernel
theorem dM_derive_31 : decode b_M_derive 31 = .ok (.getfield 83, 3) := by decide +kernel
theorem dM_derive_34 : decode b_M_derive 34 = .ok (.bipush 8, 2) := by decide +kernel
theorem dM_derive_36 : decode b_M_derive 36 = .ok (.if_icmp .ne 5, 3) := by decide +kernel
theorem dM_derive_39 : decode b_M_derive 39 = .ok (.iconst (-1), 1) := by decide +kernel
theorem dM_derive_40 : decode b_M_derive 40 = .ok (.ireturn, 1) := by decide +kernel
theorem dM_derive_41 : decode b_M_derive 41 = .ok (.aload_n 0, 1) := by decide +kernel
theorem dM_derive_42 : decode b_M_derive 42 = .ok (.getfield 22, 3) := by decide +kernel
theorem dM_derive_45 : decode b_M_derive 45 = .ok (.aload_n 0, 1) := by decide +kernel
theorem dM_derive_46 : decode b_M_derive 46 = .ok (.getfield 83, 3) := by decide +kernel
theorem dM_derive_49 : decode b_M_derive 49 = .ok (.iload_n 1, 1) := by decide +kernel
theorem dM_derive_50 : decode b_M_derive 50 = .ok (.iastore, 1) := by decide +kernel
theorem dM_derive_51 : decode b_M_derive 51 = .ok (.aload_n 0, 1) := by decide +kernel
theorem dM_derive_52 : decode b_M_derive 52 = .ok (.getfield 25, 3) := by decide +kernel
theorem dM_derive_55 : decode b_M_derive 55 = .ok (.aload_n 0, 1) := by decide +kernel
theorem dM_derive_56 : decode b_M_derive 56 = .ok (.getfield 83, 3) := by decide +kernel
theorem dM_derive_59 : decode b_M_derive 59 = .ok (.iload_n 2, 1) := by decide +kernel
theorem dM_derive_60 : decode b_M_derive 60 = .ok (.iastore, 1) := by decide +kernel
theorem dM_derive_61 : decode b_M_derive 61 = .ok (.aload_n 0, 1) := by decide +kernel
theorem dM_derive_62 : decode b_M_derive 62 = .ok (.dup, 1) := by decide +kernel
theorem dM_derive_63 : decode b_M_derive 63 = .ok (.getfield 83, 3) := by decide +kernel
theorem dM_derive_66 : decode b_M_derive 66 = .ok (.iconst 1, 1) := by decide +kernel
theorem dM_derive_67 : decode b_M_derive 67 = .ok (.iadd, 1) := by decide +kernel
theorem dM_derive_68 : decode b_M_derive 68 = .ok (.putfield 83, 3) := by decide +kernel
theorem dM_derive_71 : decode b_M_derive 71 = .ok (.aload_n 0, 1) := by decide +kernel
theorem dM_derive_72 : decode b_M_derive 72 = .ok (.getfield 83, 3) := by decide +kernel
theorem dM_derive_75 : decode b_M_derive 75 = .ok (.iconst 1, 1) := by decide +kernel
theorem dM_derive_76 : decode b_M_derive 76 = .ok (.isub, 1) := by decide +kernel
theorem dM_derive_77 : decode b_M_derive 77 = .ok (.ireturn, 1) := by decide +kernel
theorem dM_direct_0 : decode b_M_direct 0 = .ok (.iconst 0, 1) := by decide +kernel
theorem dM_direct_1 : decode b_M_direct 1 = .ok (.istore_n 2, 1) := by decide +kernel
theorem dM_direct_2 : decode b_M_direct 2 = .ok (.iload_n 2, 1) := by decide +kernel
theorem dM_direct_3 : decode b_M_direct 3 = .ok (.bipush 80, 2) := by decide +kernel
theorem dM_direct_5 : decode b_M_direct 5 = .ok (.if_icmp .ge 16, 3) := by decide +kernel
theorem dM_direct_8 : decode b_M_direct 8 = .ok (.aload_n 0, 1) := by decide +kernel
theorem dM_direct_9 : decode b_M_direct 9 = .ok (.getfield 46, 3) := by decide +kernel
theorem dM_direct_12 : decode b_M_direct 12 = .ok (.iload_n 2, 1) := by decide +kernel
theorem dM_direct_13 : decode b_M_direct 13 = .ok (.iconst 0, 1) := by decide +kernel
theorem dM_direct_14 : decode b_M_direct 14 = .ok (.bastore, 1) := by decide +kernel
theorem dM_direct_15 : decode b_M_direct 15 = .ok (.iinc 2 1, 3) := by decide +kernel
theorem dM_direct_18 : decode b_M_direct 18 = .ok (.goto (-16), 3) := by decide +kernel
theorem dM_direct_21 : decode b_M_direct 21 = .ok (.iconst 0, 1) := by decide +kernel
theorem dM_direct_22 : decode b_M_direct 22 = .ok (.istore_n 2, 1) := by decide +kernel
theorem dM_direct_23 : decode b_M_direct 23 = .ok (.iload_n 2, 1) := by decide +kernel
theorem dM_direct_24 : decode b_M_direct 24 = .ok (.aload_n 0, 1) := by decide +kernel
theorem dM_direct_25 : decode b_M_direct 25 = .ok (.getfield 37, 3) := by decide +kernel
theorem dM_direct_28 : decode b_M_direct 28 = .ok (.iload_n 1, 1) := by decide +kernel
theorem dM_direct_29 : decode b_M_direct 29 = .ok (.iaload, 1) := by decide +kernel
theorem dM_direct_30 : decode b_M_direct 30 = .ok (.if_icmp .ge 43, 3) := by decide +kernel
theorem dM_direct_33 : decode b_M_direct 33 = .ok (.aload_n 0, 1) := by decide +kernel
theorem dM_direct_34 : decode b_M_direct 34 = .ok (.getfield 28, 3) := by decide +kernel
theorem dM_direct_37 : decode b_M_direct 37 = .ok (.bipush 12, 2) := by decide +kernel
theorem dM_direct_39 : decode b_M_direct 39 = .ok (.iload_n 1, 1) := by decide +kernel
theorem dM_direct_40 : decode b_M_direct 40 = .ok (.imul, 1) := by decide +kernel
theorem dM_direct_41 : decode b_M_direct 41 = .ok (.iload_n 2, 1) := by decide +kernel
theorem dM_direct_42 : decode b_M_direct 42 = .ok (.iadd, 1) := by decide +kernel
theorem dM_direct_43 : decode b_M_direct 43 = .ok (.iaload, 1) := by decide +kernel
theorem dM_direct_44 : decode b_M_direct 44 = .ok (.invokestatic 118, 3) := by decide +kernel
theorem dM_direct_47 : decode b_M_direct 47 = .ok (.ifCond .eq 20, 3) := by decide +kernel
theorem dM_direct_50 : decode b_M_direct 50 = .ok (.aload_n 0, 1) := by decide +kernel
theorem dM_direct_51 : decode b_M_direct 51 = .ok (.getfield 46, 3) := by decide +kernel
theorem dM_direct_54 : decode b_M_direct 54 = .ok (.aload_n 0, 1) := by decide +kernel
theorem dM_direct_55 : decode b_M_direct 55 = .ok (.getfield 34, 3) := by decide +kernel
theorem dM_direct_58 : decode b_M_direct 58 = .ok (.bipush 12, 2) := by decide +kernel
theorem dM_direct_60 : decode b_M_direct 60 = .ok (.iload_n 1, 1) := by decide +kernel
theorem dM_direct_61 : decode b_M_direct 61 = .ok (.imul, 1) := by decide +kernel
theorem dM_direct_62 : decode b_M_direct 62 = .ok (.iload_n 2, 1) := by decide +kernel
theorem dM_direct_63 : decode b_M_direct 63 = .ok (.iadd, 1) := by decide +kernel
theorem dM_direct_64 : decode b_M_direct 64 = .ok (.iaload, 1) := by decide +kernel
theorem dM_direct_65 : decode b_M_direct 65 = .ok (.iconst 1, 1) := by decide +kernel
theorem dM_direct_66 : decode b_M_direct 66 = .ok (.bastore, 1) := by decide +kernel
theorem dM_direct_67 : decode b_M_direct 67 = .ok (.iinc 2 1, 3) := by decide +kernel
theorem dM_direct_70 : decode b_M_direct 70 = .ok (.goto (-47), 3) := by decide +kernel
theorem dM_direct_73 : decode b_M_direct 73 = .ok (.aload_n 0, 1) := by decide +kernel
theorem dM_direct_74 : decode b_M_direct 74 = .ok (.getfield 75, 3) := by decide +kernel
theorem dM_direct_77 : decode b_M_direct 77 = .ok (.iconst 1, 1) := by decide +kernel
theorem dM_direct_78 : decode b_M_direct 78 = .ok (.isub, 1) := by decide +kernel
theorem dM_direct_79 : decode b_M_direct 79 = .ok (.istore_n 2, 1) := by decide +kernel
theorem dM_direct_80 : decode b_M_direct 80 = .ok (.iload_n 2, 1) := by decide +kernel
theorem dM_direct_81 : decode b_M_direct 81 = .ok (.ifCond .lt 90, 3) := by decide +kernel
theorem dM_direct_84 : decode b_M_direct 84 = .ok (.aload_n 0, 1) := by decide +kernel
theorem dM_direct_85 : decode b_M_direct 85 = .ok (.getfield 46, 3) := by decide +kernel
theorem dM_direct_88 : decode b_M_direct 88 = .ok (.iload_n 2, 1) := by decide +kernel
theorem dM_direct_89 : decode b_M_direct 89 = .ok (.baload, 1) := by decide +kernel
theorem dM_direct_90 : decode b_M_direct 90 = .ok (.ifCond .eq 75, 3) := by decide +kernel
theorem dM_direct_93 : decode b_M_direct 93 = .ok (.aload_n 0, 1) := by decide +kernel
theorem dM_direct_94 : decode b_M_direct 94 = .ok (.getfield 7, 3) := by decide +kernel
theorem dM_direct_97 : decode b_M_direct 97 = .ok (.iload_n 2, 1) := by decide +kernel
theorem dM_direct_98 : decode b_M_direct 98 = .ok (.iaload, 1) := by decide +kernel
theorem dM_direct_99 : decode b_M_direct 99 = .ok (.iconst 2, 1) := by decide +kernel
theorem dM_direct_100 : decode b_M_direct 100 = .ok (.if_icmp .ge 6, 3) := by decide +kernel
theorem dM_direct_103 : decode b_M_direct 103 = .ok (.goto 62, 3) := by decide +kernel
theorem dM_direct_106 : decode b_M_direct 106 = .ok (.aload_n 0, 1) := by decide +kernel
theorem dM_direct_107 : decode b_M_direct 107 = .ok (.getfield 46, 3) := by decide +kernel
theorem dM_direct_110 : decode b_M_direct 110 = .ok (.aload_n 0, 1) := by decide +kernel
theorem dM_direct_111 : decode b_M_direct 111 = .ok (.getfield 13, 3) := by decide +kernel
theorem dM_direct_114 : decode b_M_direct 114 = .ok (.iload_n 2, 1) := by decide +kernel
theorem dM_direct_115 : decode b_M_direct 115 = .ok (.iaload, 1) := by decide +kernel
theorem dM_direct_116 : decode b_M_direct 116 = .ok (.iconst 1, 1) := by decide +kernel
theorem dM_direct_117 : decode b_M_direct 117 = .ok (.bastore, 1) := by decide +kernel
theorem dM_direct_118 : decode b_M_direct 118 = .ok (.aload_n 0, 1) := by decide +kernel
theorem dM_direct_119 : decode b_M_direct 119 = .ok (.getfield 7, 3) := by decide +kernel
theorem dM_direct_122 : decode b_M_direct 122 = .ok (.iload_n 2, 1) := by decide +kernel
theorem dM_direct_123 : decode b_M_direct 123 = .ok (.iaload, 1) := by decide +kernel
theorem dM_direct_124 : decode b_M_direct 124 = .ok (.invokestatic 90, 3) := by decide +kernel
theorem dM_direct_127 : decode b_M_direct 127 = .ok (.ifCond .eq 15, 3) := by decide +kernel
theorem dM_direct_130 : decode b_M_direct 130 = .ok (.aload_n 0, 1) := by decide +kernel
theorem dM_direct_131 : decode b_M_direct 131 = .ok (.getfield 46, 3) := by decide +kernel
theorem dM_direct_134 : decode b_M_direct 134 = .ok (.aload_n 0, 1) := by decide +kernel
theorem dM_direct_135 : decode b_M_direct 135 = .ok (.getfield 16, 3) := by decide +kernel
theorem dM_direct_138 : decode b_M_direct 138 = .ok (.iload_n 2, 1) := by decide +kernel
theorem dM_direct_139 : decode b_M_direct 139 = .ok (.iaload, 1) := by decide +kernel
theorem dM_direct_140 : decode b_M_direct 140 = .ok (.iconst 1, 1) := by decide +kernel
theorem dM_direct_141 : decode b_M_direct 141 = .ok (.bastore, 1) := by decide +kernel
theorem dM_direct_142 : decode b_M_direct 142 = .ok (.aload_n 0, 1) := by decide +kernel
theorem dM_direct_143 : decode b_M_direct 143 = .ok (.getfield 7, 3) := by decide +kernel
theorem dM_direct_146 : decode b_M_direct 146 = .ok (.iload_n 2, 1) := by decide +kernel
theorem dM_direct_147 : decode b_M_direct 147 = .ok (.iaload, 1) := by decide +kernel
theorem dM_direct_148 : decode b_M_direct 148 = .ok (.bipush 11, 2) := by decide +kernel
theorem dM_direct_150 : decode b_M_direct 150 = .ok (.if_icmp .ne 15, 3) := by decide +kernel
theorem dM_direct_153 : decode b_M_direct 153 = .ok (.aload_n 0, 1) := by decide +kernel
theorem dM_direct_154 : decode b_M_direct 154 = .ok (.getfield 50, 3) := by decide +kernel
theorem dM_direct_157 : decode b_M_direct 157 = .ok (.aload_n 0, 1) := by decide +kernel
theorem dM_direct_158 : decode b_M_direct 158 = .ok (.getfield 19, 3) := by decide +kernel
theorem dM_direct_161 : decode b_M_direct 161 = .ok (.iload_n 2, 1) := by decide +kernel
theorem dM_direct_162 : decode b_M_direct 162 = .ok (.iaload, 1) := by decide +kernel
theorem dM_direct_163 : decode b_M_direct 163 = .ok (.iconst 1, 1) := by decide +kernel
theorem dM_direct_164 : decode b_M_direct 164 = .ok (.bastore, 1) := by decide +kernel
theorem dM_direct_165 : decode b_M_direct 165 = .ok (.iinc 2 (-1), 3) := by decide +kernel
theorem dM_direct_168 : decode b_M_direct 168 = .ok (.goto (-88), 3) := by decide +kernel
theorem dM_direct_171 : decode b_M_direct 171 = .ok (.return_, 1) := by decide +kernel
theorem dM_enter_0 : decode b_M_enter 0 = .ok (.aload_n 0, 1) := by decide +kernel
theorem dM_enter_1 : decode b_M_enter 1 = .ok (.dup, 1) := by decide +kernel
theorem dM_enter_2 : decode b_M_enter 2 = .ok (.getfield 143, 3) := by decide +kernel
theorem dM_enter_5 : decode b_M_enter 5 = .ok (.iconst 1, 1) := by decide +kernel
theorem dM_enter_6 : decode b_M_enter 6 = .ok (.iadd, 1) := by decide +kernel
theorem dM_enter_7 : decode b_M_enter 7 = .ok (.putfield 143, 3) := by decide +kernel
theorem dM_enter_10 : decode b_M_enter 10 = .ok (.aload_n 0, 1) := by decide +kernel
theorem dM_enter_11 : decode b_M_enter 11 = .ok (.getfield 63, 3) := by decide +kernel
theorem dM_enter_14 : decode b_M_enter 14 = .ok (.aload_n 0, 1) := by decide +kernel
theorem dM_enter_15 : decode b_M_enter 15 = .ok (.getfield 143, 3) := by decide +kernel
theorem dM_enter_18 : decode b_M_enter 18 = .ok (.iconst 1, 1) := by decide +kernel
theorem dM_enter_19 : decode b_M_enter 19 = .ok (.isub, 1) := by decide +kernel
theorem dM_enter_20 : decode b_M_enter 20 = .ok (.iload_n 1, 1) := by decide +kernel
theorem dM_enter_21 : decode b_M_enter 21 = .ok (.iastore, 1) := by decide +kernel
theorem dM_enter_22 : decode b_M_enter 22 = .ok (.aload_n 0, 1) := by decide +kernel
theorem dM_enter_23 : decode b_M_enter 23 = .ok (.getfield 66, 3) := by decide +kernel
theorem dM_enter_26 : decode b_M_enter 26 = .ok (.aload_n 0, 1) := by decide +kernel
theorem dM_enter_27 : decode b_M_enter 27 = .ok (.getfield 143, 3) := by decide +kernel
theorem dM_enter_30 : decode b_M_enter 30 = .ok (.iconst 1, 1) := by decide +kernel
theorem dM_enter_31 : decode b_M_enter 31 = .ok (.isub, 1) := by decide +kernel
theorem dM_enter_32 : decode b_M_enter 32 = .ok (.iconst 0, 1) := by decide +kernel
theorem dM_enter_33 : decode b_M_enter 33 = .ok (.iastore, 1) := by decide +kernel
theorem dM_enter_34 : decode b_M_enter 34 = .ok (.aload_n 0, 1) := by decide +kernel
theorem dM_enter_35 : decode b_M_enter 35 = .ok (.getfield 69, 3) := by decide +kernel
theorem dM_enter_38 : decode b_M_enter 38 = .ok (.aload_n 0, 1) := by decide +kernel
theorem dM_enter_39 : decode b_M_enter 39 = .ok (.getfield 143, 3) := by decide +kernel
theorem dM_enter_42 : decode b_M_enter 42 = .ok (.iconst 1, 1) := by decide +kernel
theorem dM_enter_43 : decode b_M_enter 43 = .ok (.isub, 1) := by decide +kernel
theorem dM_enter_44 : decode b_M_enter 44 = .ok (.iconst (-1), 1) := by decide +kernel
theorem dM_enter_45 : decode b_M_enter 45 = .ok (.iastore, 1) := by decide +kernel
theorem dM_enter_46 : decode b_M_enter 46 = .ok (.iconst 0, 1) := by decide +kernel
theorem dM_enter_47 : decode b_M_enter 47 = .ok (.istore_n 2, 1) := by decide +kernel
theorem dM_enter_48 : decode b_M_enter 48 = .ok (.iload_n 2, 1) := by decide +kernel
theorem dM_enter_49 : decode b_M_enter 49 = .ok (.bipush 56, 2) := by decide +kernel
theorem dM_enter_51 : decode b_M_enter 51 = .ok (.if_icmp .ge 26, 3) := by decide +kernel
theorem dM_enter_54 : decode b_M_enter 54 = .ok (.aload_n 0, 1) := by decide +kernel
theorem dM_enter_55 : decode b_M_enter 55 = .ok (.getfield 53, 3) := by decide +kernel
theorem dM_enter_58 : decode b_M_enter 58 = .ok (.bipush 56, 2) := by decide +kernel
theorem dM_enter_60 : decode b_M_enter 60 = .ok (.aload_n 0, 1) := by decide +kernel
theorem dM_enter_61 : decode b_M_enter 61 = .ok (.getfield 143, 3) := by decide +kernel
theorem dM_enter_64 : decode b_M_enter 64 = .ok (.iconst 1, 1) := by decide +kernel
theorem dM_enter_65 : decode b_M_enter 65 = .ok (.isub, 1) := by decide +kernel
theorem dM_enter_66 : decode b_M_enter 66 = .ok (.imul, 1) := by decide +kernel
theorem dM_enter_67 : decode b_M_enter 67 = .ok (.iload_n 2, 1) := by decide +kernel
theorem dM_enter_68 : decode b_M_enter 68 = .ok (.iadd, 1) := by decide +kernel
theorem dM_enter_69 : decode b_M_enter 69 = .ok (.lconst 0, 1) := by decide +kernel
theorem dM_enter_70 : decode b_M_enter 70 = .ok (.lastore, 1) := by decide +kernel
theorem dM_enter_71 : decode b_M_enter 71 = .ok (.iinc 2 1, 3) := by decide +kernel
theorem dM_enter_74 : decode b_M_enter 74 = .ok (.goto (-26), 3) := by decide +kernel
theorem dM_enter_77 : decode b_M_enter 77 = .ok (.return_, 1) := by decide +kernel
theorem dM_evaluate_0 : decode b_M_evaluate 0 = .ok (.aload_n 0, 1) := by decide +kernel
theorem dM_evaluate_1 : decode b_M_evaluate 1 = .ok (.getfield 143, 3) := by decide +kernel
theorem dM_evaluate_4 : decode b_M_evaluate 4 = .ok (.iconst 1, 1) := by decide +kernel
theorem dM_evaluate_5 : decode b_M_evaluate 5 = .ok (.isub, 1) := by decide +kernel
theorem dM_evaluate_6 : decode b_M_evaluate 6 = .ok (.istore_n 2, 1) := by decide +kernel
theorem dM_evaluate_7 : decode b_M_evaluate 7 = .ok (.aload_n 0, 1) := by decide +kernel
theorem dM_evaluate_8 : decode b_M_evaluate 8 = .ok (.getfield 69, 3) := by decide +kernel
theorem dM_evaluate_11 : decode b_M_evaluate 11 = .ok (.iload_n 2, 1) := by decide +kernel
theorem dM_evaluate_12 : decode b_M_evaluate 12 = .ok (.iaload, 1) := by decide +kernel
theorem dM_evaluate_13 : decode b_M_evaluate 13 = .ok (.ifCond .ge 8, 3) := by decide +kernel
theorem dM_evaluate_16 : decode b_M_evaluate 16 = .ok (.aload_n 0, 1) := by decide +kernel
theorem dM_evaluate_17 : decode b_M_evaluate 17 = .ok (.iload_n 1, 1) := by decide +kernel
theorem dM_evaluate_18 : decode b_M_evaluate 18 = .ok (.invokevirtual 179, 3) := by decide +kernel
theorem dM_evaluate_21 : decode b_M_evaluate 21 = .ok (.aload_n 0, 1) := by decide +kernel
theorem dM_evaluate_22 : decode b_M_evaluate 22 = .ok (.getfield 69, 3) := by decide +kernel
theorem dM_evaluate_25 : decode b_M_evaluate 25 = .ok (.iload_n 2, 1) := by decide +kernel
theorem dM_evaluate_26 : decode b_M_evaluate 26 = .ok (.iaload, 1) := by decide +kernel
theorem dM_evaluate_27 : decode b_M_evaluate 27 = .ok (.iload_n 1, 1) := by decide +kernel
theorem dM_evaluate_28 : decode b_M_evaluate 28 = .ok (.if_icmp .gt 47, 3) := by decide +kernel
theorem dM_evaluate_31 : decode b_M_evaluate 31 = .ok (.aload_n 0, 1) := by decide +kernel
theorem dM_evaluate_32 : decode b_M_evaluate 32 = .ok (.getfield 69, 3) := by decide +kernel
theorem dM_evaluate_35 : decode b_M_evaluate 35 = .ok (.iload_n 2, 1) := by decide +kernel
theorem dM_evaluate_36 : decode b_M_evaluate 36 = .ok (.iaload, 1) := by decide +kernel
theorem dM_evaluate_37 : decode b_M_evaluate 37 = .ok (.istore_n 3, 1) := by decide +kernel
theorem dM_evaluate_38 : decode b_M_evaluate 38 = .ok (.aload_n 0, 1) := by decide +kernel
theorem dM_evaluate_39 : decode b_M_evaluate 39 = .ok (.getfield 69, 3) := by decide +kernel
theorem dM_evaluate_42 : decode b_M_evaluate 42 = .ok (.iload_n 2, 1) := by decide +kernel
theorem dM_evaluate_43 : decode b_M_evaluate 43 = .ok (.dup2, 1) := by decide +kernel
theorem dM_evaluate_44 : decode b_M_evaluate 44 = .ok (.iaload, 1) := by decide +kernel
theorem dM_evaluate_45 : decode b_M_evaluate 45 = .ok (.iconst 1, 1) := by decide +kernel
theorem dM_evaluate_46 : decode b_M_evaluate 46 = .ok (.iadd, 1) := by decide +kernel
theorem dM_evaluate_47 : decode b_M_evaluate 47 = .ok (.iastore, 1) := by decide +kernel
theorem dM_evaluate_48 : decode b_M_evaluate 48 = .ok (.aload_n 0, 1) := by decide +kernel
theorem dM_evaluate_49 : decode b_M_evaluate 49 = .ok (.getfield 60, 3) := by decide +kernel
theorem dM_evaluate_52 : decode b_M_evaluate 52 = .ok (.bipush 80, 2) := by decide +kernel
theorem dM_evaluate_54 : decode b_M_evaluate 54 = .ok (.iload_n 2, 1) := by decide +kernel
theorem dM_evaluate_55 : decode b_M_evaluate 55 = .ok (.imul, 1) := by decide +kernel
theorem dM_evaluate_56 : decode b_M_evaluate 56 = .ok (.iload_n 3, 1) := by decide +kernel
theorem dM_evaluate_57 : decode b_M_evaluate 57 = .ok (.iadd, 1) := by decide +kernel
theorem dM_evaluate_58 : decode b_M_evaluate 58 = .ok (.baload, 1) := by decide +kernel
theorem dM_evaluate_59 : decode b_M_evaluate 59 = .ok (.ifCond .eq 13, 3) := by decide +kernel
theorem dM_evaluate_62 : decode b_M_evaluate 62 = .ok (.aload_n 0, 1) := by decide +kernel
theorem dM_evaluate_63 : decode b_M_evaluate 63 = .ok (.iload_n 3, 1) := by decide +kernel
theorem dM_evaluate_64 : decode b_M_evaluate 64 = .ok (.invokevirtual 182, 3) := by decide +kernel
theorem dM_evaluate_67 : decode b_M_evaluate 67 = .ok (.ifCond .ne 5, 3) := by decide +kernel
theorem dM_evaluate_70 : decode b_M_evaluate 70 = .ok (.iconst 0, 1) := by decide +kernel
theorem dM_evaluate_71 : decode b_M_evaluate 71 = .ok (.ireturn, 1) := by decide +kernel
theorem dM_evaluate_72 : decode b_M_evaluate 72 = .ok (.goto (-51), 3) := by decide +kernel
theorem dM_evaluate_75 : decode b_M_evaluate 75 = .ok (.aload_n 0, 1) := by decide +kernel
theorem dM_evaluate_76 : decode b_M_evaluate 76 = .ok (.getfield 69, 3) := by decide +kernel
theorem dM_evaluate_79 : decode b_M_evaluate 79 = .ok (.iload_n 2, 1) := by decide +kernel
theorem dM_evaluate_80 : decode b_M_evaluate 80 = .ok (.iconst (-1), 1) := by decide +kernel
theorem dM_evaluate_81 : decode b_M_evaluate 81 = .ok (.iastore, 1) := by decide +kernel
theorem dM_evaluate_82 : decode b_M_evaluate 82 = .ok (.iconst 1, 1) := by decide +kernel
theorem dM_evaluate_83 : decode b_M_evaluate 83 = .ok (.ireturn, 1) := by decide +kernel
theorem dM_expression_0 : decode b_M_expression 0 = .ok (.iload_n 1, 1) := by decide +kernel
theorem dM_expression_1 : decode b_M_expression 1 = .ok (.bipush 11, 2) := by decide +kernel
theorem dM_expression_3 : decode b_M_expression 3 = .ok (.invokestatic 79, 3) := by decide +kernel
theorem dM_expression_6 : decode b_M_expression 6 = .ok (.ifCond .ne 29, 3) := by decide +kernel
theorem dM_expression_9 : decode b_M_expression 9 = .ok (.iload_n 1, 1) := by decide +kernel
theorem dM_expression_10 : decode b_M_expression 10 = .ok (.iconst 1, 1) := by decide +kernel
theorem dM_expression_11 : decode b_M_expression 11 = .ok (.if_icmp .ne 11, 3) := by decide +kernel
theorem dM_expression_14 : decode b_M_expression 14 = .ok (.iload_n 2, 1) := by decide +kernel
theorem dM_expression_15 : decode b_M_expression 15 = .ok (.iconst 5, 1) := by decide +kernel
theorem dM_expression_16 : decode b_M_expression 16 = .ok (.invokestatic 79, 3) := by decide +kernel
theorem dM_expression_19 : decode b_M_expression 19 = .ok (.ifCond .ne 16, 3) := by decide +kernel
theorem dM_expression_22 : decode b_M_expression 22 = .ok (.iload_n 1, 1) := by decide +kernel
theorem dM_expression_23 : decode b_M_expression 23 = .ok (.iconst 2, 1) := by decide +kernel
theorem dM_expression_24 : decode b_M_expression 24 = .ok (.if_icmp .lt 13, 3) := by decide +kernel
theorem dM_expression_27 : decode b_M_expression 27 = .ok (.aload_n 0, 1) := by decide +kernel
theorem dM_expression_28 : decode b_M_expression 28 = .ok (.iload_n 2, 1) := by decide +kernel
theorem dM_expression_29 : decode b_M_expression 29 = .ok (.invokevirtual 86, 3) := by decide +kernel
theorem dM_expression_32 : decode b_M_expression 32 = .ok (.ifCond .eq 5, 3) := by decide +kernel
theorem dM_expression_35 : decode b_M_expression 35 = .ok (.iconst (-1), 1) := by decide +kernel
theorem dM_expression_36 : decode b_M_expression 36 = .ok (.ireturn, 1) := by decide +kernel
theorem dM_expression_37 : decode b_M_expression 37 = .ok (.iload_n 1, 1) := by decide +kernel
theorem dM_expression_38 : decode b_M_expression 38 = .ok (.invokestatic 90, 3) := by decide +kernel
theorem dM_expression_41 : decode b_M_expression 41 = .ok (.istore 5, 2) := by decide +kernel
theorem dM_expression_43 : decode b_M_expression 43 = .ok (.iload 5, 2) := by decide +kernel
theorem dM_expression_45 : decode b_M_expression 45 = .ok (.ifCond .eq 11, 3) := by decide +kernel
theorem dM_expression_48 : decode b_M_expression 48 = .ok (.aload_n 0, 1) := by decide +kernel
theorem dM_expression_49 : decode b_M_expression 49 = .ok (.iload_n 3, 1) := by decide +kernel
theorem dM_expression_50 : decode b_M_expression 50 = .ok (.invokevirtual 86, 3) := by decide +kernel
theorem dM_expression_53 : decode b_M_expression 53 = .ok (.ifCond .ne 46, 3) := by decide +kernel
theorem dM_expression_56 : decode b_M_expression 56 = .ok (.iload_n 1, 1) := by decide +kernel
theorem dM_expression_57 : decode b_M_expression 57 = .ok (.bipush 6, 2) := by decide +kernel
theorem dM_expression_59 : decode b_M_expression 59 = .ok (.if_icmp .ne 11, 3) := by decide +kernel
theorem dM_expression_62 : decode b_M_expression 62 = .ok (.iload_n 3, 1) := by decide +kernel
theorem dM_expression_63 : decode b_M_expression 63 = .ok (.iconst 3, 1) := by decide +kernel
theorem dM_expression_64 : decode b_M_expression 64 = .ok (.invokestatic 79, 3) := by decide +kernel
theorem dM_expression_67 : decode b_M_expression 67 = .ok (.ifCond .ne 32, 3) := by decide +kernel
theorem dM_expression_70 : decode b_M_expression 70 = .ok (.iload_n 1, 1) := by decide +kernel
theorem dM_expression_71 : decode b_M_expression 71 = .ok (.bipush 10, 2) := by decide +kernel
theorem dM_expression_73 : decode b_M_expression 73 = .ok (.if_icmp .ne 11, 3) := by decide +kernel
theorem dM_expression_76 : decode b_M_expression 76 = .ok (.iload_n 3, 1) := by decide +kernel
theorem dM_expression_77 : decode b_M_expression 77 = .ok (.iconst 1, 1) := by decide +kernel
theorem dM_expression_78 : decode b_M_expression 78 = .ok (.invokestatic 79, 3) := by decide +kernel
theorem dM_expression_81 : decode b_M_expression 81 = .ok (.ifCond .ne 18, 3) := by decide +kernel
theorem dM_expression_84 : decode b_M_expression 84 = .ok (.iload_n 1, 1) := by decide +kernel
theorem dM_expression_85 : decode b_M_expression 85 = .ok (.bipush 11, 2) := by decide +kernel
theorem dM_expression_87 : decode b_M_expression 87 = .ok (.if_icmp .ne 14, 3) := by decide +kernel
theorem dM_expression_90 : decode b_M_expression 90 = .ok (.aload_n 0, 1) := by decide +kernel
theorem dM_expression_91 : decode b_M_expression 91 = .ok (.iload 4, 2) := by decide +kernel
theorem dM_expression_93 : decode b_M_expression 93 = .ok (.invokevirtual 93, 3) := by decide +kernel
theorem dM_expression_96 : decode b_M_expression 96 = .ok (.ifCond .eq 5, 3) := by decide +kernel
theorem dM_expression_99 : decode b_M_expression 99 = .ok (.iconst (-1), 1) := by decide +kernel
theorem dM_expression_100 : decode b_M_expression 100 = .ok (.ireturn, 1) := by decide +kernel
theorem dM_expression_101 : decode b_M_expression 101 = .ok (.aload_n 0, 1) := by decide +kernel
theorem dM_expression_102 : decode b_M_expression 102 = .ok (.getfield 75, 3) := by decide +kernel
theorem dM_expression_105 : decode b_M_expression 105 = .ok (.bipush 80, 2) := by decide +kernel
theorem dM_expression_107 : decode b_M_expression 107 = .ok (.if_icmp .ne 5, 3) := by decide +kernel
theorem dM_expression_110 : decode b_M_expression 110 = .ok (.iconst (-1), 1) := by decide +kernel
theorem dM_expression_111 : decode b_M_expression 111 = .ok (.ireturn, 1) := by decide +kernel
theorem dM_expression_112 : decode b_M_expression 112 = .ok (.aload_n 0, 1) := by decide +kernel
theorem dM_expression_113 : decode b_M_expression 113 = .ok (.getfield 7, 3) := by decide +kernel
theorem dM_expression_116 : decode b_M_expression 116 = .ok (.aload_n 0, 1) := by decide +kernel
theorem dM_expression_117 : decode b_M_expression 117 = .ok (.getfield 75, 3) := by decide +kernel
theorem dM_expression_120 : decode b_M_expression 120 = .ok (.iload_n 1, 1) := by decide +kernel
theorem dM_expression_121 : decode b_M_expression 121 = .ok (.iastore, 1) := by decide +kernel
theorem dM_expression_122 : decode b_M_expression 122 = .ok (.aload_n 0, 1) := by decide +kernel
theorem dM_expression_123 : decode b_M_expression 123 = .ok (.getfield 13, 3) := by decide +kernel
theorem dM_expression_126 : decode b_M_expression 126 = .ok (.aload_n 0, 1) := by decide +kernel
theorem dM_expression_127 : decode b_M_expression 127 = .ok (.getfield 75, 3) := by decide +kernel
theorem dM_expression_130 : decode b_M_expression 130 = .ok (.iload_n 2, 1) := by decide +kernel
theorem dM_expression_131 : decode b_M_expression 131 = .ok (.iastore, 1) := by decide +kernel
theorem dM_expression_132 : decode b_M_expression 132 = .ok (.aload_n 0, 1) := by decide +kernel
theorem dM_expression_133 : decode b_M_expression 133 = .ok (.getfield 16, 3) := by decide +kernel
theorem dM_expression_136 : decode b_M_expression 136 = .ok (.aload_n 0, 1) := by decide +kernel
theorem dM_expression_137 : decode b_M_expression 137 = .ok (.getfield 75, 3) := by decide +kernel
theorem dM_expression_140 : decode b_M_expression 140 = .ok (.iload_n 3, 1) := by decide +kernel
theorem dM_expression_141 : decode b_M_expression 141 = .ok (.iastore, 1) := by decide +kernel
theorem dM_expression_142 : decode b_M_expression 142 = .ok (.aload_n 0, 1) := by decide +kernel
theorem dM_expression_143 : decode b_M_expression 143 = .ok (.getfield 19, 3) := by decide +kernel
theorem dM_expression_146 : decode b_M_expression 146 = .ok (.aload_n 0, 1) := by decide +kernel
theorem dM_expression_147 : decode b_M_expression 147 = .ok (.getfield 75, 3) := by decide +kernel
theorem dM_expression_150 : decode b_M_expression 150 = .ok (.iload 4, 2) := by decide +kernel
theorem dM_expression_152 : decode b_M_expression 152 = .ok (.iastore, 1) := by decide +kernel
theorem dM_expression_153 : decode b_M_expression 153 = .ok (.aload_n 0, 1) := by decide +kernel
theorem dM_expression_154 : decode b_M_expression 154 = .ok (.dup, 1) := by decide +kernel
theorem dM_expression_155 : decode b_M_expression 155 = .ok (.getfield 75, 3) := by decide +kernel
theorem dM_expression_158 : decode b_M_expression 158 = .ok (.iconst 1, 1) := by decide +kernel
theorem dM_expression_159 : decode b_M_expression 159 = .ok (.iadd, 1) := by decide +kernel
theorem dM_expression_160 : decode b_M_expression 160 = .ok (.putfield 75, 3) := by decide +kernel
theorem dM_expression_163 : decode b_M_expression 163 = .ok (.aload_n 0, 1) := by decide +kernel
theorem dM_expression_164 : decode b_M_expression 164 = .ok (.getfield 75, 3) := by decide +kernel
theorem dM_expression_167 : decode b_M_expression 167 = .ok (.iconst 1, 1) := by decide +kernel
theorem dM_expression_168 : decode b_M_expression 168 = .ok (.isub, 1) := by decide +kernel
theorem dM_expression_169 : decode b_M_expression 169 = .ok (.ireturn, 1) := by decide +kernel
theorem dM_function_0 : decode b_M_function 0 = .ok (.aload_n 0, 1) := by decide +kernel
theorem dM_function_1 : decode b_M_function 1 = .ok (.getfield 83, 3) := by decide +kernel
theorem dM_function_4 : decode b_M_function 4 = .ok (.bipush 8, 2) := by decide +kernel
theorem dM_function_6 : decode b_M_function 6 = .ok (.if_icmp .ne 5, 3) := by decide +kernel
theorem dM_function_9 : decode b_M_function 9 = .ok (.iconst (-1), 1) := by decide +kernel
theorem dM_function_10 : decode b_M_function 10 = .ok (.ireturn, 1) := by decide +kernel
theorem dM_function_11 : decode b_M_function 11 = .ok (.aload_n 0, 1) := by decide +kernel
theorem dM_function_12 : decode b_M_function 12 = .ok (.getfield 22, 3) := by decide +kernel
theorem dM_function_15 : decode b_M_function 15 = .ok (.aload_n 0, 1) := by decide +kernel
theorem dM_function_16 : decode b_M_function 16 = .ok (.getfield 83, 3) := by decide +kernel
theorem dM_function_19 : decode b_M_function 19 = .ok (.iconst (-1), 1) := by decide +kernel
theorem dM_function_20 : decode b_M_function 20 = .ok (.iastore, 1) := by decide +kernel
theorem dM_function_21 : decode b_M_function 21 = .ok (.aload_n 0, 1) := by decide +kernel
theorem dM_function_22 : decode b_M_function 22 = .ok (.getfield 37, 3) := by decide +kernel
theorem dM_function_25 : decode b_M_function 25 = .ok (.aload_n 0, 1) := by decide +kernel
theorem dM_function_26 : decode b_M_function 26 = .ok (.getfield 83, 3) := by decide +kernel
theorem dM_function_29 : decode b_M_function 29 = .ok (.iconst 0, 1) := by decide +kernel
theorem dM_function_30 : decode b_M_function 30 = .ok (.iastore, 1) := by decide +kernel
theorem dM_function_31 : decode b_M_function 31 = .ok (.aload_n 0, 1) := by decide +kernel
theorem dM_function_32 : decode b_M_function 32 = .ok (.dup, 1) := by decide +kernel
theorem dM_function_33 : decode b_M_function 33 = .ok (.getfield 83, 3) := by decide +kernel
theorem dM_function_36 : decode b_M_function 36 = .ok (.iconst 1, 1) := by decide +kernel
theorem dM_function_37 : decode b_M_function 37 = .ok (.iadd, 1) := by decide +kernel
theorem dM_function_38 : decode b_M_function 38 = .ok (.putfield 83, 3) := by decide +kernel
theorem dM_function_41 : decode b_M_function 41 = .ok (.aload_n 0, 1) := by decide +kernel
theorem dM_function_42 : decode b_M_function 42 = .ok (.getfield 83, 3) := by decide +kernel
theorem dM_function_45 : decode b_M_function 45 = .ok (.iconst 1, 1) := by decide +kernel
theorem dM_function_46 : decode b_M_function 46 = .ok (.isub, 1) := by decide +kernel
theorem dM_function_47 : decode b_M_function 47 = .ok (.ireturn, 1) := by decide +kernel
theorem dM_gradient_0 : decode b_M_gradient 0 = .ok (.aload_n 0, 1) := by decide +kernel
theorem dM_gradient_1 : decode b_M_gradient 1 = .ok (.iload_n 1, 1) := by decide +kernel
theorem dM_gradient_2 : decode b_M_gradient 2 = .ok (.invokevirtual 93, 3) := by decide +kernel
theorem dM_gradient_5 : decode b_M_gradient 5 = .ok (.ifCond .ne 11, 3) := by decide +kernel
theorem dM_gradient_8 : decode b_M_gradient 8 = .ok (.iload_n 2, 1) := by decide +kernel
theorem dM_gradient_9 : decode b_M_gradient 9 = .ok (.iconst 1, 1) := by decide +kernel
theorem dM_gradient_10 : decode b_M_gradient 10 = .ok (.invokestatic 79, 3) := by decide +kernel
theorem dM_gradient_13 : decode b_M_gradient 13 = .ok (.ifCond .eq 7, 3) := by decide +kernel
theorem dM_gradient_16 : decode b_M_gradient 16 = .ok (.ldc2_w 201, 3) := by decide +kernel
theorem dM_gradient_19 : decode b_M_gradient 19 = .ok (.lreturn, 1) := by decide +kernel
theorem dM_gradient_20 : decode b_M_gradient 20 = .ok (.aload_n 0, 1) := by decide +kernel
theorem dM_gradient_21 : decode b_M_gradient 21 = .ok (.iload_n 1, 1) := by decide +kernel
theorem dM_gradient_22 : decode b_M_gradient 22 = .ok (.lload_n 3, 1) := by decide +kernel
theorem dM_gradient_23 : decode b_M_gradient 23 = .ok (.lload 5, 2) := by decide +kernel
theorem dM_gradient_25 : decode b_M_gradient 25 = .ok (.iload_n 2, 1) := by decide +kernel
theorem dM_gradient_26 : decode b_M_gradient 26 = .ok (.iconst (-1), 1) := by decide +kernel
theorem dM_gradient_27 : decode b_M_gradient 27 = .ok (.invokevirtual 203, 3) := by decide +kernel
theorem dM_gradient_30 : decode b_M_gradient 30 = .ok (.aload_n 0, 1) := by decide +kernel
theorem dM_gradient_31 : decode b_M_gradient 31 = .ok (.getfield 53, 3) := by decide +kernel
theorem dM_gradient_34 : decode b_M_gradient 34 = .ok (.iconst 1, 1) := by decide +kernel
theorem dM_gradient_35 : decode b_M_gradient 35 = .ok (.laload, 1) := by decide +kernel
theorem dM_gradient_36 : decode b_M_gradient 36 = .ok (.lreturn, 1) := by decide +kernel
theorem dM_hasSecond_0 : decode b_M_hasSecond 0 = .ok (.iload_n 0, 1) := by decide +kernel
theorem dM_hasSecond_1 : decode b_M_hasSecond 1 = .ok (.iconst 2, 1) := by decide +kernel
theorem dM_hasSecond_2 : decode b_M_hasSecond 2 = .ok (.if_icmp .lt 8, 3) := by decide +kernel
theorem dM_hasSecond_5 : decode b_M_hasSecond 5 = .ok (.iload_n 0, 1) := by decide +kernel
theorem dM_hasSecond_6 : decode b_M_hasSecond 6 = .ok (.iconst 4, 1) := by decide +kernel
theorem dM_hasSecond_7 : decode b_M_hasSecond 7 = .ok (.if_icmp .le 21, 3) := by decide +kernel
theorem dM_hasSecond_10 : decode b_M_hasSecond 10 = .ok (.iload_n 0, 1) := by decide +kernel
theorem dM_hasSecond_11 : decode b_M_hasSecond 11 = .ok (.bipush 8, 2) := by decide +kernel
theorem dM_hasSecond_13 : decode b_M_hasSecond 13 = .ok (.if_icmp .eq 15, 3) := by decide +kernel
theorem dM_hasSecond_16 : decode b_M_hasSecond 16 = .ok (.iload_n 0, 1) := by decide +kernel
theorem dM_hasSecond_17 : decode b_M_hasSecond 17 = .ok (.bipush 9, 2) := by decide +kernel
theorem dM_hasSecond_19 : decode b_M_hasSecond 19 = .ok (.if_icmp .eq 9, 3) := by decide +kernel
theorem dM_hasSecond_22 : decode b_M_hasSecond 22 = .ok (.iload_n 0, 1) := by decide +kernel
theorem dM_hasSecond_23 : decode b_M_hasSecond 23 = .ok (.bipush 11, 2) := by decide +kernel
theorem dM_hasSecond_25 : decode b_M_hasSecond 25 = .ok (.if_icmp .ne 7, 3) := by decide +kernel
theorem dM_hasSecond_28 : decode b_M_hasSecond 28 = .ok (.iconst 1, 1) := by decide +kernel
theorem dM_hasSecond_29 : decode b_M_hasSecond 29 = .ok (.goto 4, 3) := by decide +kernel
theorem dM_hasSecond_32 : decode b_M_hasSecond 32 = .ok (.iconst 0, 1) := by decide +kernel
theorem dM_hasSecond_33 : decode b_M_hasSecond 33 = .ok (.ireturn, 1) := by decide +kernel
theorem dM_init_0 : decode b_M_init 0 = .ok (.aload_n 0, 1) := by decide +kernel
theorem dM_init_1 : decode b_M_init 1 = .ok (.invokespecial 1, 3) := by decide +kernel
theorem dM_init_4 : decode b_M_init 4 = .ok (.aload_n 0, 1) := by decide +kernel
theorem dM_init_5 : decode b_M_init 5 = .ok (.bipush 80, 2) := by decide +kernel
theorem dM_init_7 : decode b_M_init 7 = .ok (.newarray .int, 2) := by decide +kernel
theorem dM_init_9 : decode b_M_init 9 = .ok (.putfield 7, 3) := by decide +kernel
theorem dM_init_12 : decode b_M_init 12 = .ok (.aload_n 0, 1) := by decide +kernel
theorem dM_init_13 : decode b_M_init 13 = .ok (.bipush 80, 2) := by decide +kernel
theorem dM_init_15 : decode b_M_init 15 = .ok (.newarray .int, 2) := by decide +kernel
theorem dM_init_17 : decode b_M_init 17 = .ok (.putfield 13, 3) := by decide +kernel
theorem dM_init_20 : decode b_M_init 20 = .ok (.aload_n 0, 1) := by decide +kernel
theorem dM_init_21 : decode b_M_init 21 = .ok (.bipush 80, 2) := by decide +kernel
theorem dM_init_23 : decode b_M_init 23 = .ok (.newarray .int, 2) := by decide +kernel
theorem dM_init_25 : decode b_M_init 25 = .ok (.putfield 16, 3) := by decide +kernel
theorem dM_init_28 : decode b_M_init 28 = .ok (.aload_n 0, 1) := by decide +kernel
theorem dM_init_29 : decode b_M_init 29 = .ok (.bipush 80, 2) := by decide +kernel
theorem dM_init_31 : decode b_M_init 31 = .ok (.newarray .int, 2) := by decide +kernel
theorem dM_init_33 : decode b_M_init 33 = .ok (.putfield 19, 3) := by decide +kernel
theorem dM_init_36 : decode b_M_init 36 = .ok (.aload_n 0, 1) := by decide +kernel
theorem dM_init_37 : decode b_M_init 37 = .ok (.bipush 8, 2) := by decide +kernel
theorem dM_init_39 : decode b_M_init 39 = .ok (.newarray .int, 2) := by decide +kernel
theorem dM_init_41 : decode b_M_init 41 = .ok (.putfield 22, 3) := by decide +kernel
theorem dM_init_44 : decode b_M_init 44 = .ok (.aload_n 0, 1) := by decide +kernel
theorem dM_init_45 : decode b_M_init 45 = .ok (.bipush 8, 2) := by decide +kernel
theorem dM_init_47 : decode b_M_init 47 = .ok (.newarray .int, 2) := by decide +kernel
theorem dM_init_49 : decode b_M_init 49 = .ok (.putfield 25, 3) := by decide +kernel
theorem dM_init_52 : decode b_M_init 52 = .ok (.aload_n 0, 1) := by decide +kernel
theorem dM_init_53 : decode b_M_init 53 = .ok (.bipush 96, 2) := by decide +kernel
theorem dM_init_55 : decode b_M_init 55 = .ok (.newarray .int, 2) := by decide +kernel
theorem dM_init_57 : decode b_M_init 57 = .ok (.putfield 28, 3) := by decide +kernel
theorem dM_init_60 : decode b_M_init 60 = .ok (.aload_n 0, 1) := by decide +kernel
theorem dM_init_61 : decode b_M_init 61 = .ok (.bipush 96, 2) := by decide +kernel
theorem dM_init_63 : decode b_M_init 63 = .ok (.newarray .int, 2) := by decide +kernel
theorem dM_init_65 : decode b_M_init 65 = .ok (.putfield 31, 3) := by decide +kernel
theorem dM_init_68 : decode b_M_init 68 = .ok (.aload_n 0, 1) := by decide +kernel
theorem dM_init_69 : decode b_M_init 69 = .ok (.bipush 96, 2) := by decide +kernel
theorem dM_init_71 : decode b_M_init 71 = .ok (.newarray .int, 2) := by decide +kernel
theorem dM_init_73 : decode b_M_init 73 = .ok (.putfield 34, 3) := by decide +kernel
theorem dM_init_76 : decode b_M_init 76 = .ok (.aload_n 0, 1) := by decide +kernel
theorem dM_init_77 : decode b_M_init 77 = .ok (.bipush 8, 2) := by decide +kernel
theorem dM_init_79 : decode b_M_init 79 = .ok (.newarray .int, 2) := by decide +kernel
theorem dM_init_81 : decode b_M_init 81 = .ok (.putfield 37, 3) := by decide +kernel
theorem dM_init_84 : decode b_M_init 84 = .ok (.aload_n 0, 1) := by decide +kernel
theorem dM_init_85 : decode b_M_init 85 = .ok (.bipush 80, 2) := by decide +kernel
theorem dM_init_87 : decode b_M_init 87 = .ok (.newarray .int, 2) := by decide +kernel
theorem dM_init_89 : decode b_M_init 89 = .ok (.putfield 40, 3) := by decide +kernel
theorem dM_init_92 : decode b_M_init 92 = .ok (.aload_n 0, 1) := by decide +kernel
theorem dM_init_93 : decode b_M_init 93 = .ok (.bipush 8, 2) := by decide +kernel
theorem dM_init_95 : decode b_M_init 95 = .ok (.newarray .int, 2) := by decide +kernel
theorem dM_init_97 : decode b_M_init 97 = .ok (.putfield 43, 3) := by decide +kernel
theorem dM_init_100 : decode b_M_init 100 = .ok (.aload_n 0, 1) := by decide +kernel
theorem dM_init_101 : decode b_M_init 101 = .ok (.bipush 80, 2) := by decide +kernel
theorem dM_init_103 : decode b_M_init 103 = .ok (.newarray .boolean, 2) := by decide +kernel
theorem dM_init_105 : decode b_M_init 105 = .ok (.putfield 46, 3) := by decide +kernel
theorem dM_init_108 : decode b_M_init 108 = .ok (.aload_n 0, 1) := by decide +kernel
theorem dM_init_109 : decode b_M_init 109 = .ok (.bipush 8, 2) := by decide +kernel
theorem dM_init_111 : decode b_M_init 111 = .ok (.newarray .boolean, 2) := by decide +kernel
theorem dM_init_113 : decode b_M_init 113 = .ok (.putfield 50, 3) := by decide +kernel
theorem dM_init_116 : decode b_M_init 116 = .ok (.aload_n 0, 1) := by decide +kernel
theorem dM_init_117 : decode b_M_init 117 = .ok (.sipush 448, 3) := by decide +kernel
theorem dM_init_120 : decode b_M_init 120 = .ok (.newarray .long, 2) := by decide +kernel
theorem dM_init_122 : decode b_M_init 122 = .ok (.putfield 53, 3) := by decide +kernel
theorem dM_init_125 : decode b_M_init 125 = .ok (.aload_n 0, 1) := by decide +kernel
theorem dM_init_126 : decode b_M_init 126 = .ok (.sipush 2560, 3) := by decide +kernel
theorem dM_init_129 : decode b_M_init 129 = .ok (.newarray .long, 2) := by decide +kernel
theorem dM_init_131 : decode b_M_init 131 = .ok (.putfield 57, 3) := by decide +kernel
theorem dM_init_134 : decode b_M_init 134 = .ok (.aload_n 0, 1) := by decide +kernel
theorem dM_init_135 : decode b_M_init 135 = .ok (.sipush 640, 3) := by decide +kernel
theorem dM_init_138 : decode b_M_init 138 = .ok (.newarray .boolean, 2) := by decide +kernel
theorem dM_init_140 : decode b_M_init 140 = .ok (.putfield 60, 3) := by decide +kernel
theorem dM_init_143 : decode b_M_init 143 = .ok (.aload_n 0, 1) := by decide +kernel
theorem dM_init_144 : decode b_M_init 144 = .ok (.bipush 8, 2) := by decide +kernel
theorem dM_init_146 : decode b_M_init 146 = .ok (.newarray .int, 2) := by decide +kernel
theorem dM_init_148 : decode b_M_init 148 = .ok (.putfield 63, 3) := by decide +kernel
theorem dM_init_151 : decode b_M_init 151 = .ok (.aload_n 0, 1) := by decide +kernel
theorem dM_init_152 : decode b_M_init 152 = .ok (.bipush 8, 2) := by decide +kernel
theorem dM_init_154 : decode b_M_init 154 = .ok (.newarray .int, 2) := by decide +kernel
theorem dM_init_156 : decode b_M_init 156 = .ok (.putfield 66, 3) := by decide +kernel
theorem dM_init_159 : decode b_M_init 159 = .ok (.aload_n 0, 1) := by decide +kernel
theorem dM_init_160 : decode b_M_init 160 = .ok (.bipush 8, 2) := by decide +kernel
theorem dM_init_162 : decode b_M_init 162 = .ok (.newarray .int, 2) := by decide +kernel
theorem dM_init_164 : decode b_M_init 164 = .ok (.putfield 69, 3) := by decide +kernel
theorem dM_init_167 : decode b_M_init 167 = .ok (.aload_n 0, 1) := by decide +kernel
theorem dM_init_168 : decode b_M_init 168 = .ok (.sipush 192, 3) := by decide +kernel
theorem dM_init_171 : decode b_M_init 171 = .ok (.newarray .int, 2) := by decide +kernel
theorem dM_init_173 : decode b_M_init 173 = .ok (.putfield 72, 3) := by decide +kernel
theorem dM_init_176 : decode b_M_init 176 = .ok (.return_, 1) := by decide +kernel
theorem dM_kindAt_0 : decode b_M_kindAt 0 = .ok (.iload_n 2, 1) := by decide +kernel
theorem dM_kindAt_1 : decode b_M_kindAt 1 = .ok (.aload_n 0, 1) := by decide +kernel
theorem dM_kindAt_2 : decode b_M_kindAt 2 = .ok (.getfield 37, 3) := by decide +kernel
theorem dM_kindAt_5 : decode b_M_kindAt 5 = .ok (.iload_n 1, 1) := by decide +kernel
theorem dM_kindAt_6 : decode b_M_kindAt 6 = .ok (.iaload, 1) := by decide +kernel
theorem dM_kindAt_7 : decode b_M_kindAt 7 = .ok (.if_icmp .ge 17, 3) := by decide +kernel
theorem dM_kindAt_10 : decode b_M_kindAt 10 = .ok (.aload_n 0, 1) := by decide +kernel
theorem dM_kindAt_11 : decode b_M_kindAt 11 = .ok (.getfield 28, 3) := by decide +kernel
theorem dM_kindAt_14 : decode b_M_kindAt 14 = .ok (.bipush 12, 2) := by decide +kernel
theorem dM_kindAt_16 : decode b_M_kindAt 16 = .ok (.iload_n 1, 1) := by decide +kernel
theorem dM_kindAt_17 : decode b_M_kindAt 17 = .ok (.imul, 1) := by decide +kernel
theorem dM_kindAt_18 : decode b_M_kindAt 18 = .ok (.iload_n 2, 1) := by decide +kernel
theorem dM_kindAt_19 : decode b_M_kindAt 19 = .ok (.iadd, 1) := by decide +kernel
theorem dM_kindAt_20 : decode b_M_kindAt 20 = .ok (.iaload, 1) := by decide +kernel
theorem dM_kindAt_21 : decode b_M_kindAt 21 = .ok (.goto 4, 3) := by decide +kernel
theorem dM_kindAt_24 : decode b_M_kindAt 24 = .ok (.iconst 5, 1) := by decide +kernel
theorem dM_kindAt_25 : decode b_M_kindAt 25 = .ok (.ireturn, 1) := by decide +kernel
theorem dM_lacking_0 : decode b_M_lacking 0 = .ok (.iconst 0, 1) := by decide +kernel
theorem dM_lacking_1 : decode b_M_lacking 1 = .ok (.istore_n 2, 1) := by decide +kernel
theorem dM_lacking_2 : decode b_M_lacking 2 = .ok (.iconst 0, 1) := by decide +kernel
theorem dM_lacking_3 : decode b_M_lacking 3 = .ok (.istore_n 3, 1) := by decide +kernel
theorem dM_lacking_4 : decode b_M_lacking 4 = .ok (.iload_n 3, 1) := by decide +kernel
theorem dM_lacking_5 : decode b_M_lacking 5 = .ok (.aload_n 0, 1) := by decide +kernel
theorem dM_lacking_6 : decode b_M_lacking 6 = .ok (.getfield 37, 3) := by decide +kernel
theorem dM_lacking_9 : decode b_M_lacking 9 = .ok (.iload_n 1, 1) := by decide +kernel
theorem dM_lacking_10 : decode b_M_lacking 10 = .ok (.iaload, 1) := by decide +kernel
theorem dM_lacking_11 : decode b_M_lacking 11 = .ok (.if_icmp .ge 53, 3) := by decide +kernel
theorem dM_lacking_14 : decode b_M_lacking 14 = .ok (.iload_n 2, 1) := by decide +kernel
theorem dM_lacking_15 : decode b_M_lacking 15 = .ok (.aload_n 0, 1) := by decide +kernel
theorem dM_lacking_16 : decode b_M_lacking 16 = .ok (.getfield 28, 3) := by decide +kernel
theorem dM_lacking_19 : decode b_M_lacking 19 = .ok (.bipush 12, 2) := by decide +kernel
theorem dM_lacking_21 : decode b_M_lacking 21 = .ok (.iload_n 1, 1) := by decide +kernel
theorem dM_lacking_22 : decode b_M_lacking 22 = .ok (.imul, 1) := by decide +kernel
theorem dM_lacking_23 : decode b_M_lacking 23 = .ok (.iload_n 3, 1) := by decide +kernel
theorem dM_lacking_24 : decode b_M_lacking 24 = .ok (.iadd, 1) := by decide +kernel
theorem dM_lacking_25 : decode b_M_lacking 25 = .ok (.iaload, 1) := by decide +kernel
theorem dM_lacking_26 : decode b_M_lacking 26 = .ok (.invokestatic 104, 3) := by decide +kernel
theorem dM_lacking_29 : decode b_M_lacking 29 = .ok (.ifCond .eq 7, 3) := by decide +kernel
theorem dM_lacking_32 : decode b_M_lacking 32 = .ok (.iconst 1, 1) := by decide +kernel
theorem dM_lacking_33 : decode b_M_lacking 33 = .ok (.goto 23, 3) := by decide +kernel
theorem dM_lacking_36 : decode b_M_lacking 36 = .ok (.aload_n 0, 1) := by decide +kernel
theorem dM_lacking_37 : decode b_M_lacking 37 = .ok (.getfield 28, 3) := by decide +kernel
theorem dM_lacking_40 : decode b_M_lacking 40 = .ok (.bipush 12, 2) := by decide +kernel
theorem dM_lacking_42 : decode b_M_lacking 42 = .ok (.iload_n 1, 1) := by decide +kernel
theorem dM_lacking_43 : decode b_M_lacking 43 = .ok (.imul, 1) := by decide +kernel
theorem dM_lacking_44 : decode b_M_lacking 44 = .ok (.iload_n 3, 1) := by decide +kernel
theorem dM_lacking_45 : decode b_M_lacking 45 = .ok (.iadd, 1) := by decide +kernel
theorem dM_lacking_46 : decode b_M_lacking 46 = .ok (.iaload, 1) := by decide +kernel
theorem dM_lacking_47 : decode b_M_lacking 47 = .ok (.iconst 5, 1) := by decide +kernel
theorem dM_lacking_48 : decode b_M_lacking 48 = .ok (.if_icmp .ne 7, 3) := by decide +kernel
theorem dM_lacking_51 : decode b_M_lacking 51 = .ok (.iconst (-1), 1) := by decide +kernel
theorem dM_lacking_52 : decode b_M_lacking 52 = .ok (.goto 4, 3) := by decide +kernel
theorem dM_lacking_55 : decode b_M_lacking 55 = .ok (.iconst 0, 1) := by decide +kernel
theorem dM_lacking_56 : decode b_M_lacking 56 = .ok (.iadd, 1) := by decide +kernel
theorem dM_lacking_57 : decode b_M_lacking 57 = .ok (.istore_n 2, 1) := by decide +kernel
theorem dM_lacking_58 : decode b_M_lacking 58 = .ok (.iinc 3 1, 3) := by decide +kernel
theorem dM_lacking_61 : decode b_M_lacking 61 = .ok (.goto (-57), 3) := by decide +kernel
theorem dM_lacking_64 : decode b_M_lacking 64 = .ok (.iload_n 2, 1) := by decide +kernel
theorem dM_lacking_65 : decode b_M_lacking 65 = .ok (.ireturn, 1) := by decide +kernel
theorem dM_leave_0 : decode b_M_leave 0 = .ok (.aload_n 0, 1) := by decide +kernel
theorem dM_leave_1 : decode b_M_leave 1 = .ok (.iconst 0, 1) := by decide +kernel
theorem dM_leave_2 : decode b_M_leave 2 = .ok (.invokevirtual 153, 3) := by decide +kernel
theorem dM_leave_5 : decode b_M_leave 5 = .ok (.istore_n 1, 1) := by decide +kernel
theorem dM_leave_6 : decode b_M_leave 6 = .ok (.aload_n 0, 1) := by decide +kernel
theorem dM_leave_7 : decode b_M_leave 7 = .ok (.dup, 1) := by decide +kernel
theorem dM_leave_8 : decode b_M_leave 8 = .ok (.getfield 143, 3) := by decide +kernel
theorem dM_leave_11 : decode b_M_leave 11 = .ok (.iconst 1, 1) := by decide +kernel
theorem dM_leave_12 : decode b_M_leave 12 = .ok (.isub, 1) := by decide +kernel
theorem dM_leave_13 : decode b_M_leave 13 = .ok (.putfield 143, 3) := by decide +kernel
theorem dM_leave_16 : decode b_M_leave 16 = .ok (.aload_n 0, 1) := by decide +kernel
theorem dM_leave_17 : decode b_M_leave 17 = .ok (.getfield 143, 3) := by decide +kernel
theorem dM_leave_20 : decode b_M_leave 20 = .ok (.ifCond .ne 4, 3) := by decide +kernel
theorem dM_leave_23 : decode b_M_leave 23 = .ok (.return_, 1) := by decide +kernel
theorem dM_leave_24 : decode b_M_leave 24 = .ok (.aload_n 0, 1) := by decide +kernel
theorem dM_leave_25 : decode b_M_leave 25 = .ok (.getfield 69, 3) := by decide +kernel
theorem dM_leave_28 : decode b_M_leave 28 = .ok (.aload_n 0, 1) := by decide +kernel
theorem dM_leave_29 : decode b_M_leave 29 = .ok (.getfield 143, 3) := by decide +kernel
theorem dM_leave_32 : decode b_M_leave 32 = .ok (.iconst 1, 1) := by decide +kernel
theorem dM_leave_33 : decode b_M_leave 33 = .ok (.isub, 1) := by decide +kernel
theorem dM_leave_34 : decode b_M_leave 34 = .ok (.iaload, 1) := by decide +kernel
theorem dM_leave_35 : decode b_M_leave 35 = .ok (.iconst 1, 1) := by decide +kernel
theorem dM_leave_36 : decode b_M_leave 36 = .ok (.isub, 1) := by decide +kernel
theorem dM_leave_37 : decode b_M_leave 37 = .ok (.istore_n 2, 1) := by decide +kernel
theorem dM_leave_38 : decode b_M_leave 38 = .ok (.iconst 0, 1) := by decide +kernel
theorem dM_leave_39 : decode b_M_leave 39 = .ok (.istore_n 3, 1) := by decide +kernel
theorem dM_leave_40 : decode b_M_leave 40 = .ok (.iload_n 3, 1) := by decide +kernel
theorem dM_leave_41 : decode b_M_leave 41 = .ok (.iconst 4, 1) := by decide +kernel
theorem dM_leave_42 : decode b_M_leave 42 = .ok (.if_icmp .ge 29, 3) := by decide +kernel
theorem dM_leave_45 : decode b_M_leave 45 = .ok (.aload_n 0, 1) := by decide +kernel
theorem dM_leave_46 : decode b_M_leave 46 = .ok (.getfield 57, 3) := by decide +kernel
theorem dM_leave_49 : decode b_M_leave 49 = .ok (.aload_n 0, 1) := by decide +kernel
theorem dM_leave_50 : decode b_M_leave 50 = .ok (.iload_n 2, 1) := by decide +kernel
theorem dM_leave_51 : decode b_M_leave 51 = .ok (.invokevirtual 146, 3) := by decide +kernel
theorem dM_leave_54 : decode b_M_leave 54 = .ok (.iload_n 3, 1) := by decide +kernel
theorem dM_leave_55 : decode b_M_leave 55 = .ok (.iadd, 1) := by decide +kernel
theorem dM_leave_56 : decode b_M_leave 56 = .ok (.aload_n 0, 1) := by decide +kernel
theorem dM_leave_57 : decode b_M_leave 57 = .ok (.getfield 53, 3) := by decide +kernel
theorem dM_leave_60 : decode b_M_leave 60 = .ok (.iload_n 1, 1) := by decide +kernel
theorem dM_leave_61 : decode b_M_leave 61 = .ok (.iload_n 3, 1) := by decide +kernel
theorem dM_leave_62 : decode b_M_leave 62 = .ok (.iadd, 1) := by decide +kernel
theorem dM_leave_63 : decode b_M_leave 63 = .ok (.laload, 1) := by decide +kernel
theorem dM_leave_64 : decode b_M_leave 64 = .ok (.lastore, 1) := by decide +kernel
theorem dM_leave_65 : decode b_M_leave 65 = .ok (.iinc 3 1, 3) := by decide +kernel
theorem dM_leave_68 : decode b_M_leave 68 = .ok (.goto (-28), 3) := by decide +kernel
theorem dM_leave_71 : decode b_M_leave 71 = .ok (.return_, 1) := by decide +kernel
theorem dM_misplaced_0 : decode b_M_misplaced 0 = .ok (.iload_n 2, 1) := by decide +kernel
theorem dM_misplaced_1 : decode b_M_misplaced 1 = .ok (.iconst 3, 1) := by decide +kernel
theorem dM_misplaced_2 : decode b_M_misplaced 2 = .ok (.if_icmp .eq 10, 3) := by decide +kernel
theorem dM_misplaced_5 : decode b_M_misplaced 5 = .ok (.iload_n 2, 1) := by decide +kernel
theorem dM_misplaced_6 : decode b_M_misplaced 6 = .ok (.iconst 5, 1) := by decide +kernel
theorem dM_misplaced_7 : decode b_M_misplaced 7 = .ok (.if_icmp .eq 5, 3) := by decide +kernel
theorem dM_misplaced_10 : decode b_M_misplaced 10 = .ok (.iconst 0, 1) := by decide +kernel
theorem dM_misplaced_11 : decode b_M_misplaced 11 = .ok (.ireturn, 1) := by decide +kernel
theorem dM_misplaced_12 : decode b_M_misplaced 12 = .ok (.aload_n 0, 1) := by decide +kernel
theorem dM_misplaced_13 : decode b_M_misplaced 13 = .ok (.iload_n 1, 1) := by decide +kernel
theorem dM_misplaced_14 : decode b_M_misplaced 14 = .ok (.aload_n 0, 1) := by decide +kernel
theorem dM_misplaced_15 : decode b_M_misplaced 15 = .ok (.getfield 37, 3) := by decide +kernel
theorem dM_misplaced_18 : decode b_M_misplaced 18 = .ok (.iload_n 1, 1) := by decide +kernel
theorem dM_misplaced_19 : decode b_M_misplaced 19 = .ok (.iaload, 1) := by decide +kernel
theorem dM_misplaced_20 : decode b_M_misplaced 20 = .ok (.invokevirtual 107, 3) := by decide +kernel
theorem dM_misplaced_23 : decode b_M_misplaced 23 = .ok (.istore_n 3, 1) := by decide +kernel
theorem dM_misplaced_24 : decode b_M_misplaced 24 = .ok (.iload_n 3, 1) := by decide +kernel
theorem dM_misplaced_25 : decode b_M_misplaced 25 = .ok (.ifCond .lt 8, 3) := by decide +kernel
theorem dM_misplaced_28 : decode b_M_misplaced 28 = .ok (.iload_n 2, 1) := by decide +kernel
theorem dM_misplaced_29 : decode b_M_misplaced 29 = .ok (.iconst 5, 1) := by decide +kernel
theorem dM_misplaced_30 : decode b_M_misplaced 30 = .ok (.if_icmp .ne 13, 3) := by decide +kernel
theorem dM_misplaced_33 : decode b_M_misplaced 33 = .ok (.iload_n 3, 1) := by decide +kernel
theorem dM_misplaced_34 : decode b_M_misplaced 34 = .ok (.ifCond .ge 7, 3) := by decide +kernel
theorem dM_misplaced_37 : decode b_M_misplaced 37 = .ok (.iconst 1, 1) := by decide +kernel
theorem dM_misplaced_38 : decode b_M_misplaced 38 = .ok (.goto 4, 3) := by decide +kernel
theorem dM_misplaced_41 : decode b_M_misplaced 41 = .ok (.iconst 0, 1) := by decide +kernel
theorem dM_misplaced_42 : decode b_M_misplaced 42 = .ok (.ireturn, 1) := by decide +kernel
theorem dM_misplaced_43 : decode b_M_misplaced 43 = .ok (.aload_n 0, 1) := by decide +kernel
theorem dM_misplaced_44 : decode b_M_misplaced 44 = .ok (.iload_n 1, 1) := by decide +kernel
theorem dM_misplaced_45 : decode b_M_misplaced 45 = .ok (.iload_n 3, 1) := by decide +kernel
theorem dM_misplaced_46 : decode b_M_misplaced 46 = .ok (.invokevirtual 100, 3) := by decide +kernel
theorem dM_misplaced_49 : decode b_M_misplaced 49 = .ok (.iconst 2, 1) := by decide +kernel
theorem dM_misplaced_50 : decode b_M_misplaced 50 = .ok (.if_icmp .ne 19, 3) := by decide +kernel
theorem dM_misplaced_53 : decode b_M_misplaced 53 = .ok (.aload_n 0, 1) := by decide +kernel
theorem dM_misplaced_54 : decode b_M_misplaced 54 = .ok (.iload_n 1, 1) := by decide +kernel
theorem dM_misplaced_55 : decode b_M_misplaced 55 = .ok (.iload_n 3, 1) := by decide +kernel
theorem dM_misplaced_56 : decode b_M_misplaced 56 = .ok (.iconst 1, 1) := by decide +kernel
theorem dM_misplaced_57 : decode b_M_misplaced 57 = .ok (.invokevirtual 110, 3) := by decide +kernel
theorem dM_misplaced_60 : decode b_M_misplaced 60 = .ok (.aload_n 0, 1) := by decide +kernel
theorem dM_misplaced_61 : decode b_M_misplaced 61 = .ok (.getfield 37, 3) := by decide +kernel
theorem dM_misplaced_64 : decode b_M_misplaced 64 = .ok (.iload_n 1, 1) := by decide +kernel
theorem dM_misplaced_65 : decode b_M_misplaced 65 = .ok (.iaload, 1) := by decide +kernel
theorem dM_misplaced_66 : decode b_M_misplaced 66 = .ok (.if_icmp .ge 7, 3) := by decide +kernel
theorem dM_misplaced_69 : decode b_M_misplaced 69 = .ok (.iconst 1, 1) := by decide +kernel
theorem dM_misplaced_70 : decode b_M_misplaced 70 = .ok (.goto 4, 3) := by decide +kernel
theorem dM_misplaced_73 : decode b_M_misplaced 73 = .ok (.iconst 0, 1) := by decide +kernel
theorem dM_misplaced_74 : decode b_M_misplaced 74 = .ok (.ireturn, 1) := by decide +kernel
theorem dM_multiply_0 : decode b_M_multiply 0 = .ok (.aload_n 0, 1) := by decide +kernel
theorem dM_multiply_1 : decode b_M_multiply 1 = .ok (.getfield 57, 3) := by decide +kernel
theorem dM_multiply_4 : decode b_M_multiply 4 = .ok (.iload_n 2, 1) := by decide +kernel
theorem dM_multiply_5 : decode b_M_multiply 5 = .ok (.laload, 1) := by decide +kernel
theorem dM_multiply_6 : decode b_M_multiply 6 = .ok (.aload_n 0, 1) := by decide +kernel
theorem dM_multiply_7 : decode b_M_multiply 7 = .ok (.getfield 57, 3) := by decide +kernel
theorem dM_multiply_10 : decode b_M_multiply 10 = .ok (.iload_n 3, 1) := by decide +kernel
theorem dM_multiply_11 : decode b_M_multiply 11 = .ok (.laload, 1) := by decide +kernel
theorem dM_multiply_12 : decode b_M_multiply 12 = .ok (.lmul, 1) := by decide +kernel
theorem dM_multiply_13 : decode b_M_multiply 13 = .ok (.lstore 4, 2) := by decide +kernel
theorem dM_multiply_15 : decode b_M_multiply 15 = .ok (.aload_n 0, 1) := by decide +kernel
theorem dM_multiply_16 : decode b_M_multiply 16 = .ok (.getfield 57, 3) := by decide +kernel
theorem dM_multiply_19 : decode b_M_multiply 19 = .ok (.iload_n 2, 1) := by decide +kernel
theorem dM_multiply_20 : decode b_M_multiply 20 = .ok (.laload, 1) := by decide +kernel
theorem dM_multiply_21 : decode b_M_multiply 21 = .ok (.aload_n 0, 1) := by decide +kernel
theorem dM_multiply_22 : decode b_M_multiply 22 = .ok (.getfield 57, 3) := by decide +kernel
theorem dM_multiply_25 : decode b_M_multiply 25 = .ok (.iload_n 3, 1) := by decide +kernel
theorem dM_multiply_26 : decode b_M_multiply 26 = .ok (.iconst 1, 1) := by decide +kernel
theorem dM_multiply_27 : decode b_M_multiply 27 = .ok (.iadd, 1) := by decide +kernel
theorem dM_multiply_28 : decode b_M_multiply 28 = .ok (.laload, 1) := by decide +kernel
theorem dM_multiply_29 : decode b_M_multiply 29 = .ok (.lmul, 1) := by decide +kernel
theorem dM_multiply_30 : decode b_M_multiply 30 = .ok (.aload_n 0, 1) := by decide +kernel
theorem dM_multiply_31 : decode b_M_multiply 31 = .ok (.getfield 57, 3) := by decide +kernel
theorem dM_multiply_34 : decode b_M_multiply 34 = .ok (.iload_n 2, 1) := by decide +kernel
theorem dM_multiply_35 : decode b_M_multiply 35 = .ok (.iconst 1, 1) := by decide +kernel
theorem dM_multiply_36 : decode b_M_multiply 36 = .ok (.iadd, 1) := by decide +kernel
theorem dM_multiply_37 : decode b_M_multiply 37 = .ok (.laload, 1) := by decide +kernel
theorem dM_multiply_38 : decode b_M_multiply 38 = .ok (.aload_n 0, 1) := by decide +kernel
theorem dM_multiply_39 : decode b_M_multiply 39 = .ok (.getfield 57, 3) := by decide +kernel
theorem dM_multiply_42 : decode b_M_multiply 42 = .ok (.iload_n 3, 1) := by decide +kernel
theorem dM_multiply_43 : decode b_M_multiply 43 = .ok (.laload, 1) := by decide +kernel
theorem dM_multiply_44 : decode b_M_multiply 44 = .ok (.lmul, 1) := by decide +kernel
theorem dM_multiply_45 : decode b_M_multiply 45 = .ok (.ladd, 1) := by decide +kernel
theorem dM_multiply_46 : decode b_M_multiply 46 = .ok (.lstore 6, 2) := by decide +kernel
theorem dM_multiply_48 : decode b_M_multiply 48 = .ok (.aload_n 0, 1) := by decide +kernel
theorem dM_multiply_49 : decode b_M_multiply 49 = .ok (.getfield 57, 3) := by decide +kernel
theorem dM_multiply_52 : decode b_M_multiply 52 = .ok (.iload_n 2, 1) := by decide +kernel
theorem dM_multiply_53 : decode b_M_multiply 53 = .ok (.laload, 1) := by decide +kernel
theorem dM_multiply_54 : decode b_M_multiply 54 = .ok (.aload_n 0, 1) := by decide +kernel
theorem dM_multiply_55 : decode b_M_multiply 55 = .ok (.getfield 57, 3) := by decide +kernel
theorem dM_multiply_58 : decode b_M_multiply 58 = .ok (.iload_n 3, 1) := by decide +kernel
theorem dM_multiply_59 : decode b_M_multiply 59 = .ok (.iconst 2, 1) := by decide +kernel
theorem dM_multiply_60 : decode b_M_multiply 60 = .ok (.iadd, 1) := by decide +kernel
theorem dM_multiply_61 : decode b_M_multiply 61 = .ok (.laload, 1) := by decide +kernel
theorem dM_multiply_62 : decode b_M_multiply 62 = .ok (.lmul, 1) := by decide +kernel
theorem dM_multiply_63 : decode b_M_multiply 63 = .ok (.aload_n 0, 1) := by decide +kernel
theorem dM_multiply_64 : decode b_M_multiply 64 = .ok (.getfield 57, 3) := by decide +kernel
theorem dM_multiply_67 : decode b_M_multiply 67 = .ok (.iload_n 2, 1) := by decide +kernel
theorem dM_multiply_68 : decode b_M_multiply 68 = .ok (.iconst 2, 1) := by decide +kernel
theorem dM_multiply_69 : decode b_M_multiply 69 = .ok (.iadd, 1) := by decide +kernel
theorem dM_multiply_70 : decode b_M_multiply 70 = .ok (.laload, 1) := by decide +kernel
theorem dM_multiply_71 : decode b_M_multiply 71 = .ok (.aload_n 0, 1) := by decide +kernel
theorem dM_multiply_72 : decode b_M_multiply 72 = .ok (.getfield 57, 3) := by decide +kernel
theorem dM_multiply_75 : decode b_M_multiply 75 = .ok (.iload_n 3, 1) := by decide +kernel
theorem dM_multiply_76 : decode b_M_multiply 76 = .ok (.laload, 1) := by decide +kernel
theorem dM_multiply_77 : decode b_M_multiply 77 = .ok (.lmul, 1) := by decide +kernel
theorem dM_multiply_78 : decode b_M_multiply 78 = .ok (.ladd, 1) := by decide +kernel
theorem dM_multiply_79 : decode b_M_multiply 79 = .ok (.lstore 8, 2) := by decide +kernel
theorem dM_multiply_81 : decode b_M_multiply 81 = .ok (.aload_n 0, 1) := by decide +kernel
theorem dM_multiply_82 : decode b_M_multiply 82 = .ok (.getfield 57, 3) := by decide +kernel
theorem dM_multiply_85 : decode b_M_multiply 85 = .ok (.iload_n 2, 1) := by decide +kernel
theorem dM_multiply_86 : decode b_M_multiply 86 = .ok (.laload, 1) := by decide +kernel
theorem dM_multiply_87 : decode b_M_multiply 87 = .ok (.aload_n 0, 1) := by decide +kernel
theorem dM_multiply_88 : decode b_M_multiply 88 = .ok (.getfield 57, 3) := by decide +kernel
theorem dM_multiply_91 : decode b_M_multiply 91 = .ok (.iload_n 3, 1) := by decide +kernel
theorem dM_multiply_92 : decode b_M_multiply 92 = .ok (.iconst 3, 1) := by decide +kernel
theorem dM_multiply_93 : decode b_M_multiply 93 = .ok (.iadd, 1) := by decide +kernel
theorem dM_multiply_94 : decode b_M_multiply 94 = .ok (.laload, 1) := by decide +kernel
theorem dM_multiply_95 : decode b_M_multiply 95 = .ok (.lmul, 1) := by decide +kernel
theorem dM_multiply_96 : decode b_M_multiply 96 = .ok (.aload_n 0, 1) := by decide +kernel
theorem dM_multiply_97 : decode b_M_multiply 97 = .ok (.getfield 57, 3) := by decide +kernel
theorem dM_multiply_100 : decode b_M_multiply 100 = .ok (.iload_n 2, 1) := by decide +kernel
theorem dM_multiply_101 : decode b_M_multiply 101 = .ok (.iconst 1, 1) := by decide +kernel
theorem dM_multiply_102 : decode b_M_multiply 102 = .ok (.iadd, 1) := by decide +kernel
theorem dM_multiply_103 : decode b_M_multiply 103 = .ok (.laload, 1) := by decide +kernel
theorem dM_multiply_104 : decode b_M_multiply 104 = .ok (.aload_n 0, 1) := by decide +kernel
theorem dM_multiply_105 : decode b_M_multiply 105 = .ok (.getfield 57, 3) := by decide +kernel
theorem dM_multiply_108 : decode b_M_multiply 108 = .ok (.iload_n 3, 1) := by decide +kernel
theorem dM_multiply_109 : decode b_M_multiply 109 = .ok (.iconst 2, 1) := by decide +kernel
theorem dM_multiply_110 : decode b_M_multiply 110 = .ok (.iadd, 1) := by decide +kernel
theorem dM_multiply_111 : decode b_M_multiply 111 = .ok (.laload, 1) := by decide +kernel
theorem dM_multiply_112 : decode b_M_multiply 112 = .ok (.lmul, 1) := by decide +kernel
theorem dM_multiply_113 : decode b_M_multiply 113 = .ok (.ladd, 1) := by decide +kernel
theorem dM_multiply_114 : decode b_M_multiply 114 = .ok (.aload_n 0, 1) := by decide +kernel
theorem dM_multiply_115 : decode b_M_multiply 115 = .ok (.getfield 57, 3) := by decide +kernel
theorem dM_multiply_118 : decode b_M_multiply 118 = .ok (.iload_n 2, 1) := by decide +kernel
theorem dM_multiply_119 : decode b_M_multiply 119 = .ok (.iconst 2, 1) := by decide +kernel
theorem dM_multiply_120 : decode b_M_multiply 120 = .ok (.iadd, 1) := by decide +kernel
theorem dM_multiply_121 : decode b_M_multiply 121 = .ok (.laload, 1) := by decide +kernel
theorem dM_multiply_122 : decode b_M_multiply 122 = .ok (.aload_n 0, 1) := by decide +kernel
theorem dM_multiply_123 : decode b_M_multiply 123 = .ok (.getfield 57, 3) := by decide +kernel
theorem dM_multiply_126 : decode b_M_multiply 126 = .ok (.iload_n 3, 1) := by decide +kernel
theorem dM_multiply_127 : decode b_M_multiply 127 = .ok (.iconst 1, 1) := by decide +kernel
theorem dM_multiply_128 : decode b_M_multiply 128 = .ok (.iadd, 1) := by decide +kernel
theorem dM_multiply_129 : decode b_M_multiply 129 = .ok (.laload, 1) := by decide +kernel
theorem dM_multiply_130 : decode b_M_multiply 130 = .ok (.lmul, 1) := by decide +kernel
theorem dM_multiply_131 : decode b_M_multiply 131 = .ok (.ladd, 1) := by decide +kernel
theorem dM_multiply_132 : decode b_M_multiply 132 = .ok (.aload_n 0, 1) := by decide +kernel
theorem dM_multiply_133 : decode b_M_multiply 133 = .ok (.getfield 57, 3) := by decide +kernel
theorem dM_multiply_136 : decode b_M_multiply 136 = .ok (.iload_n 2, 1) := by decide +kernel
theorem dM_multiply_137 : decode b_M_multiply 137 = .ok (.iconst 3, 1) := by decide +kernel
theorem dM_multiply_138 : decode b_M_multiply 138 = .ok (.iadd, 1) := by decide +kernel
theorem dM_multiply_139 : decode b_M_multiply 139 = .ok (.laload, 1) := by decide +kernel
theorem dM_multiply_140 : decode b_M_multiply 140 = .ok (.aload_n 0, 1) := by decide +kernel
theorem dM_multiply_141 : decode b_M_multiply 141 = .ok (.getfield 57, 3) := by decide +kernel
theorem dM_multiply_144 : decode b_M_multiply 144 = .ok (.iload_n 3, 1) := by decide +kernel
theorem dM_multiply_145 : decode b_M_multiply 145 = .ok (.laload, 1) := by decide +kernel
theorem dM_multiply_146 : decode b_M_multiply 146 = .ok (.lmul, 1) := by decide +kernel
theorem dM_multiply_147 : decode b_M_multiply 147 = .ok (.ladd, 1) := by decide +kernel
theorem dM_multiply_148 : decode b_M_multiply 148 = .ok (.lstore 10, 2) := by decide +kernel
theorem dM_multiply_150 : decode b_M_multiply 150 = .ok (.aload_n 0, 1) := by decide +kernel
theorem dM_multiply_151 : decode b_M_multiply 151 = .ok (.iload_n 1, 1) := by decide +kernel
theorem dM_multiply_152 : decode b_M_multiply 152 = .ok (.invokevirtual 146, 3) := by decide +kernel
theorem dM_multiply_155 : decode b_M_multiply 155 = .ok (.istore 12, 2) := by decide +kernel
theorem dM_multiply_157 : decode b_M_multiply 157 = .ok (.aload_n 0, 1) := by decide +kernel
theorem dM_multiply_158 : decode b_M_multiply 158 = .ok (.getfield 57, 3) := by decide +kernel
theorem dM_multiply_161 : decode b_M_multiply 161 = .ok (.iload 12, 2) := by decide +kernel
theorem dM_multiply_163 : decode b_M_multiply 163 = .ok (.lload 4, 2) := by decide +kernel
theorem dM_multiply_165 : decode b_M_multiply 165 = .ok (.lastore, 1) := by decide +kernel
theorem dM_multiply_166 : decode b_M_multiply 166 = .ok (.aload_n 0, 1) := by decide +kernel
theorem dM_multiply_167 : decode b_M_multiply 167 = .ok (.getfield 57, 3) := by decide +kernel
theorem dM_multiply_170 : decode b_M_multiply 170 = .ok (.iload 12, 2) := by decide +kernel
theorem dM_multiply_172 : decode b_M_multiply 172 = .ok (.iconst 1, 1) := by decide +kernel
theorem dM_multiply_173 : decode b_M_multiply 173 = .ok (.iadd, 1) := by decide +kernel
theorem dM_multiply_174 : decode b_M_multiply 174 = .ok (.lload 6, 2) := by decide +kernel
theorem dM_multiply_176 : decode b_M_multiply 176 = .ok (.lastore, 1) := by decide +kernel
theorem dM_multiply_177 : decode b_M_multiply 177 = .ok (.aload_n 0, 1) := by decide +kernel
theorem dM_multiply_178 : decode b_M_multiply 178 = .ok (.getfield 57, 3) := by decide +kernel
theorem dM_multiply_181 : decode b_M_multiply 181 = .ok (.iload 12, 2) := by decide +kernel
theorem dM_multiply_183 : decode b_M_multiply 183 = .ok (.iconst 2, 1) := by decide +kernel
theorem dM_multiply_184 : decode b_M_multiply 184 = .ok (.iadd, 1) := by decide +kernel
theorem dM_multiply_185 : decode b_M_multiply 185 = .ok (.lload 8, 2) := by decide +kernel
theorem dM_multiply_187 : decode b_M_multiply 187 = .ok (.lastore, 1) := by decide +kernel
theorem dM_multiply_188 : decode b_M_multiply 188 = .ok (.aload_n 0, 1) := by decide +kernel
theorem dM_multiply_189 : decode b_M_multiply 189 = .ok (.getfield 57, 3) := by decide +kernel
theorem dM_multiply_192 : decode b_M_multiply 192 = .ok (.iload 12, 2) := by decide +kernel
theorem dM_multiply_194 : decode b_M_multiply 194 = .ok (.iconst 3, 1) := by decide +kernel
theorem dM_multiply_195 : decode b_M_multiply 195 = .ok (.iadd, 1) := by decide +kernel
theorem dM_multiply_196 : decode b_M_multiply 196 = .ok (.lload 10, 2) := by decide +kernel
theorem dM_multiply_198 : decode b_M_multiply 198 = .ok (.lastore, 1) := by decide +kernel
theorem dM_multiply_199 : decode b_M_multiply 199 = .ok (.return_, 1) := by decide +kernel
theorem dM_need_0 : decode b_M_need 0 = .ok (.bipush 80, 2) := by decide +kernel
theorem dM_need_2 : decode b_M_need 2 = .ok (.aload_n 0, 1) := by decide +kernel
