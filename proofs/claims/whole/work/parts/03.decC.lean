theorem dA_fillI_0 : decode b_A_fillI 0 = .ok (.iconst 0, 1) := by decide +kernel
theorem dA_fillI_1 : decode b_A_fillI 1 = .ok (.istore_n 2, 1) := by decide +kernel
theorem dA_fillI_2 : decode b_A_fillI 2 = .ok (.aload_n 0, 1) := by decide +kernel
theorem dA_fillI_3 : decode b_A_fillI 3 = .ok (.arraylength, 1) := by decide +kernel
theorem dA_fillI_4 : decode b_A_fillI 4 = .ok (.istore_n 3, 1) := by decide +kernel
theorem dA_fillI_5 : decode b_A_fillI 5 = .ok (.iload_n 2, 1) := by decide +kernel
theorem dA_fillI_6 : decode b_A_fillI 6 = .ok (.iload_n 3, 1) := by decide +kernel
theorem dA_fillI_7 : decode b_A_fillI 7 = .ok (.if_icmp .ge 13, 3) := by decide +kernel
theorem dA_fillI_10 : decode b_A_fillI 10 = .ok (.aload_n 0, 1) := by decide +kernel
theorem dA_fillI_11 : decode b_A_fillI 11 = .ok (.iload_n 2, 1) := by decide +kernel
theorem dA_fillI_12 : decode b_A_fillI 12 = .ok (.iload_n 1, 1) := by decide +kernel
theorem dA_fillI_13 : decode b_A_fillI 13 = .ok (.iastore, 1) := by decide +kernel
theorem dA_fillI_14 : decode b_A_fillI 14 = .ok (.iinc 2 1, 3) := by decide +kernel
theorem dA_fillI_17 : decode b_A_fillI 17 = .ok (.goto (-12), 3) := by decide +kernel
theorem dA_fillI_20 : decode b_A_fillI 20 = .ok (.return_, 1) := by decide +kernel
theorem dA_fillJ_0 : decode b_A_fillJ 0 = .ok (.iconst 0, 1) := by decide +kernel
theorem dA_fillJ_1 : decode b_A_fillJ 1 = .ok (.istore_n 3, 1) := by decide +kernel
theorem dA_fillJ_2 : decode b_A_fillJ 2 = .ok (.aload_n 0, 1) := by decide +kernel
theorem dA_fillJ_3 : decode b_A_fillJ 3 = .ok (.arraylength, 1) := by decide +kernel
theorem dA_fillJ_4 : decode b_A_fillJ 4 = .ok (.istore 4, 2) := by decide +kernel
theorem dA_fillJ_6 : decode b_A_fillJ 6 = .ok (.iload_n 3, 1) := by decide +kernel
theorem dA_fillJ_7 : decode b_A_fillJ 7 = .ok (.iload 4, 2) := by decide +kernel
theorem dA_fillJ_9 : decode b_A_fillJ 9 = .ok (.if_icmp .ge 13, 3) := by decide +kernel
theorem dA_fillJ_12 : decode b_A_fillJ 12 = .ok (.aload_n 0, 1) := by decide +kernel
theorem dA_fillJ_13 : decode b_A_fillJ 13 = .ok (.iload_n 3, 1) := by decide +kernel
theorem dA_fillJ_14 : decode b_A_fillJ 14 = .ok (.lload_n 1, 1) := by decide +kernel
theorem dA_fillJ_15 : decode b_A_fillJ 15 = .ok (.lastore, 1) := by decide +kernel
theorem dA_fillJ_16 : decode b_A_fillJ 16 = .ok (.iinc 3 1, 3) := by decide +kernel
theorem dA_fillJ_19 : decode b_A_fillJ 19 = .ok (.goto (-13), 3) := by decide +kernel
theorem dA_fillJ_22 : decode b_A_fillJ 22 = .ok (.return_, 1) := by decide +kernel
theorem dA_fillR_0 : decode b_A_fillR 0 = .ok (.aload_n 0, 1) := by decide +kernel
theorem dA_fillR_1 : decode b_A_fillR 1 = .ok (.arraylength, 1) := by decide +kernel
theorem dA_fillR_2 : decode b_A_fillR 2 = .ok (.iload_n 1, 1) := by decide +kernel
theorem dA_fillR_3 : decode b_A_fillR 3 = .ok (.iload_n 2, 1) := by decide +kernel
theorem dA_fillR_4 : decode b_A_fillR 4 = .ok (.invokestatic 13, 3) := by decide +kernel
theorem dA_fillR_7 : decode b_A_fillR 7 = .ok (.iload_n 1, 1) := by decide +kernel
theorem dA_fillR_8 : decode b_A_fillR 8 = .ok (.istore 4, 2) := by decide +kernel
theorem dA_fillR_10 : decode b_A_fillR 10 = .ok (.iload 4, 2) := by decide +kernel
theorem dA_fillR_12 : decode b_A_fillR 12 = .ok (.iload_n 2, 1) := by decide +kernel
theorem dA_fillR_13 : decode b_A_fillR 13 = .ok (.if_icmp .ge 14, 3) := by decide +kernel
theorem dA_fillR_16 : decode b_A_fillR 16 = .ok (.aload_n 0, 1) := by decide +kernel
theorem dA_fillR_17 : decode b_A_fillR 17 = .ok (.iload 4, 2) := by decide +kernel
theorem dA_fillR_19 : decode b_A_fillR 19 = .ok (.iload_n 3, 1) := by decide +kernel
theorem dA_fillR_20 : decode b_A_fillR 20 = .ok (.iastore, 1) := by decide +kernel
theorem dA_fillR_21 : decode b_A_fillR 21 = .ok (.iinc 4 1, 3) := by decide +kernel
theorem dA_fillR_24 : decode b_A_fillR 24 = .ok (.goto (-14), 3) := by decide +kernel
theorem dA_fillR_27 : decode b_A_fillR 27 = .ok (.return_, 1) := by decide +kernel
theorem dA_rangeCheck_0 : decode b_A_rangeCheck 0 = .ok (.iload_n 1, 1) := by decide +kernel
theorem dA_rangeCheck_1 : decode b_A_rangeCheck 1 = .ok (.iload_n 2, 1) := by decide +kernel
theorem dA_rangeCheck_2 : decode b_A_rangeCheck 2 = .ok (.if_icmp .le 44, 3) := by decide +kernel
theorem dA_rangeCheck_5 : decode b_A_rangeCheck 5 = .ok (.new 43, 3) := by decide +kernel
theorem dA_rangeCheck_8 : decode b_A_rangeCheck 8 = .ok (.dup, 1) := by decide +kernel
theorem dA_rangeCheck_9 : decode b_A_rangeCheck 9 = .ok (.new 45, 3) := by decide +kernel
theorem dA_rangeCheck_12 : decode b_A_rangeCheck 12 = .ok (.dup, 1) := by decide +kernel
theorem dA_rangeCheck_13 : decode b_A_rangeCheck 13 = .ok (.invokespecial 47, 3) := by decide +kernel
theorem dA_rangeCheck_16 : decode b_A_rangeCheck 16 = .ok (.ldc 48, 2) := by decide +kernel
theorem dA_rangeCheck_18 : decode b_A_rangeCheck 18 = .ok (.invokevirtual 50, 3) := by decide +kernel
theorem dA_rangeCheck_21 : decode b_A_rangeCheck 21 = .ok (.iload_n 1, 1) := by decide +kernel
theorem dA_rangeCheck_22 : decode b_A_rangeCheck 22 = .ok (.invokevirtual 54, 3) := by decide +kernel
theorem dA_rangeCheck_25 : decode b_A_rangeCheck 25 = .ok (.ldc 57, 2) := by decide +kernel
theorem dA_rangeCheck_27 : decode b_A_rangeCheck 27 = .ok (.invokevirtual 50, 3) := by decide +kernel
theorem dA_rangeCheck_30 : decode b_A_rangeCheck 30 = .ok (.iload_n 2, 1) := by decide +kernel
theorem dA_rangeCheck_31 : decode b_A_rangeCheck 31 = .ok (.invokevirtual 54, 3) := by decide +kernel
theorem dA_rangeCheck_34 : decode b_A_rangeCheck 34 = .ok (.ldc 59, 2) := by decide +kernel
theorem dA_rangeCheck_36 : decode b_A_rangeCheck 36 = .ok (.invokevirtual 50, 3) := by decide +kernel
theorem dA_rangeCheck_39 : decode b_A_rangeCheck 39 = .ok (.invokevirtual 61, 3) := by decide +kernel
theorem dA_rangeCheck_42 : decode b_A_rangeCheck 42 = .ok (.invokespecial 65, 3) := by decide +kernel
theorem dA_rangeCheck_45 : decode b_A_rangeCheck 45 = .ok (.athrow, 1) := by decide +kernel
theorem dA_rangeCheck_46 : decode b_A_rangeCheck 46 = .ok (.iload_n 1, 1) := by decide +kernel
theorem dA_rangeCheck_47 : decode b_A_rangeCheck 47 = .ok (.ifCond .ge 12, 3) := by decide +kernel
theorem dA_rangeCheck_50 : decode b_A_rangeCheck 50 = .ok (.new 68, 3) := by decide +kernel
theorem dA_rangeCheck_53 : decode b_A_rangeCheck 53 = .ok (.dup, 1) := by decide +kernel
theorem dA_rangeCheck_54 : decode b_A_rangeCheck 54 = .ok (.iload_n 1, 1) := by decide +kernel
theorem dA_rangeCheck_55 : decode b_A_rangeCheck 55 = .ok (.invokespecial 70, 3) := by decide +kernel
theorem dA_rangeCheck_58 : decode b_A_rangeCheck 58 = .ok (.athrow, 1) := by decide +kernel
theorem dA_rangeCheck_59 : decode b_A_rangeCheck 59 = .ok (.iload_n 2, 1) := by decide +kernel
theorem dA_rangeCheck_60 : decode b_A_rangeCheck 60 = .ok (.iload_n 0, 1) := by decide +kernel
theorem dA_rangeCheck_61 : decode b_A_rangeCheck 61 = .ok (.if_icmp .le 12, 3) := by decide +kernel
theorem dA_rangeCheck_64 : decode b_A_rangeCheck 64 = .ok (.new 68, 3) := by decide +kernel
theorem dA_rangeCheck_67 : decode b_A_rangeCheck 67 = .ok (.dup, 1) := by decide +kernel
theorem dA_rangeCheck_68 : decode b_A_rangeCheck 68 = .ok (.iload_n 2, 1) := by decide +kernel
theorem dA_rangeCheck_69 : decode b_A_rangeCheck 69 = .ok (.invokespecial 70, 3) := by decide +kernel
theorem dA_rangeCheck_72 : decode b_A_rangeCheck 72 = .ok (.athrow, 1) := by decide +kernel
theorem dA_rangeCheck_73 : decode b_A_rangeCheck 73 = .ok (.return_, 1) := by decide +kernel
theorem dB_add_0 : decode b_B_add 0 = .ok (.aload_n 0, 1) := by decide +kernel
theorem dB_add_1 : decode b_B_add 1 = .ok (.getfield 30, 3) := by decide +kernel
theorem dB_add_4 : decode b_B_add 4 = .ok (.istore 4, 2) := by decide +kernel
theorem dB_add_6 : decode b_B_add 6 = .ok (.aload_n 0, 1) := by decide +kernel
theorem dB_add_7 : decode b_B_add 7 = .ok (.getfield 9, 3) := by decide +kernel
theorem dB_add_10 : decode b_B_add 10 = .ok (.iload 4, 2) := by decide +kernel
theorem dB_add_12 : decode b_B_add 12 = .ok (.iload_n 1, 1) := by decide +kernel
theorem dB_add_13 : decode b_B_add 13 = .ok (.iastore, 1) := by decide +kernel
theorem dB_add_14 : decode b_B_add 14 = .ok (.aload_n 0, 1) := by decide +kernel
theorem dB_add_15 : decode b_B_add 15 = .ok (.getfield 15, 3) := by decide +kernel
theorem dB_add_18 : decode b_B_add 18 = .ok (.iload 4, 2) := by decide +kernel
theorem dB_add_20 : decode b_B_add 20 = .ok (.iload_n 2, 1) := by decide +kernel
theorem dB_add_21 : decode b_B_add 21 = .ok (.iastore, 1) := by decide +kernel
theorem dB_add_22 : decode b_B_add 22 = .ok (.aload_n 0, 1) := by decide +kernel
theorem dB_add_23 : decode b_B_add 23 = .ok (.getfield 18, 3) := by decide +kernel
theorem dB_add_26 : decode b_B_add 26 = .ok (.iload 4, 2) := by decide +kernel
theorem dB_add_28 : decode b_B_add 28 = .ok (.iload_n 3, 1) := by decide +kernel
theorem dB_add_29 : decode b_B_add 29 = .ok (.iastore, 1) := by decide +kernel
theorem dB_add_30 : decode b_B_add 30 = .ok (.aload_n 0, 1) := by decide +kernel
theorem dB_add_31 : decode b_B_add 31 = .ok (.getfield 21, 3) := by decide +kernel
theorem dB_add_34 : decode b_B_add 34 = .ok (.iload 4, 2) := by decide +kernel
theorem dB_add_36 : decode b_B_add 36 = .ok (.bipush 12, 2) := by decide +kernel
theorem dB_add_38 : decode b_B_add 38 = .ok (.iastore, 1) := by decide +kernel
theorem dB_add_39 : decode b_B_add 39 = .ok (.aload_n 0, 1) := by decide +kernel
theorem dB_add_40 : decode b_B_add 40 = .ok (.dup, 1) := by decide +kernel
theorem dB_add_41 : decode b_B_add 41 = .ok (.getfield 30, 3) := by decide +kernel
theorem dB_add_44 : decode b_B_add 44 = .ok (.iconst 1, 1) := by decide +kernel
theorem dB_add_45 : decode b_B_add 45 = .ok (.iadd, 1) := by decide +kernel
theorem dB_add_46 : decode b_B_add 46 = .ok (.putfield 30, 3) := by decide +kernel
theorem dB_add_49 : decode b_B_add 49 = .ok (.iload_n 1, 1) := by decide +kernel
theorem dB_add_50 : decode b_B_add 50 = .ok (.iconst 3, 1) := by decide +kernel
theorem dB_add_51 : decode b_B_add 51 = .ok (.if_icmp .eq 8, 3) := by decide +kernel
theorem dB_add_54 : decode b_B_add 54 = .ok (.iload_n 1, 1) := by decide +kernel
theorem dB_add_55 : decode b_B_add 55 = .ok (.iconst 5, 1) := by decide +kernel
theorem dB_add_56 : decode b_B_add 56 = .ok (.if_icmp .ne 29, 3) := by decide +kernel
theorem dB_add_59 : decode b_B_add 59 = .ok (.aload_n 0, 1) := by decide +kernel
theorem dB_add_60 : decode b_B_add 60 = .ok (.dup, 1) := by decide +kernel
theorem dB_add_61 : decode b_B_add 61 = .ok (.getfield 34, 3) := by decide +kernel
theorem dB_add_64 : decode b_B_add 64 = .ok (.iconst 1, 1) := by decide +kernel
theorem dB_add_65 : decode b_B_add 65 = .ok (.isub, 1) := by decide +kernel
theorem dB_add_66 : decode b_B_add 66 = .ok (.putfield 34, 3) := by decide +kernel
theorem dB_add_69 : decode b_B_add 69 = .ok (.aload_n 0, 1) := by decide +kernel
theorem dB_add_70 : decode b_B_add 70 = .ok (.getfield 21, 3) := by decide +kernel
theorem dB_add_73 : decode b_B_add 73 = .ok (.aload_n 0, 1) := by decide +kernel
theorem dB_add_74 : decode b_B_add 74 = .ok (.getfield 24, 3) := by decide +kernel
theorem dB_add_77 : decode b_B_add 77 = .ok (.aload_n 0, 1) := by decide +kernel
theorem dB_add_78 : decode b_B_add 78 = .ok (.getfield 34, 3) := by decide +kernel
theorem dB_add_81 : decode b_B_add 81 = .ok (.iaload, 1) := by decide +kernel
theorem dB_add_82 : decode b_B_add 82 = .ok (.iload 4, 2) := by decide +kernel
theorem dB_add_84 : decode b_B_add 84 = .ok (.iastore, 1) := by decide +kernel
theorem dB_add_85 : decode b_B_add 85 = .ok (.iload_n 1, 1) := by decide +kernel
theorem dB_add_86 : decode b_B_add 86 = .ok (.iconst 2, 1) := by decide +kernel
theorem dB_add_87 : decode b_B_add 87 = .ok (.if_icmp .eq 13, 3) := by decide +kernel
theorem dB_add_90 : decode b_B_add 90 = .ok (.iload_n 1, 1) := by decide +kernel
theorem dB_add_91 : decode b_B_add 91 = .ok (.iconst 3, 1) := by decide +kernel
theorem dB_add_92 : decode b_B_add 92 = .ok (.if_icmp .eq 8, 3) := by decide +kernel
theorem dB_add_95 : decode b_B_add 95 = .ok (.iload_n 1, 1) := by decide +kernel
theorem dB_add_96 : decode b_B_add 96 = .ok (.iconst 4, 1) := by decide +kernel
theorem dB_add_97 : decode b_B_add 97 = .ok (.if_icmp .ne 55, 3) := by decide +kernel
theorem dB_add_100 : decode b_B_add 100 = .ok (.aload_n 0, 1) := by decide +kernel
theorem dB_add_101 : decode b_B_add 101 = .ok (.getfield 24, 3) := by decide +kernel
theorem dB_add_104 : decode b_B_add 104 = .ok (.aload_n 0, 1) := by decide +kernel
theorem dB_add_105 : decode b_B_add 105 = .ok (.getfield 34, 3) := by decide +kernel
theorem dB_add_108 : decode b_B_add 108 = .ok (.iload 4, 2) := by decide +kernel
theorem dB_add_110 : decode b_B_add 110 = .ok (.iastore, 1) := by decide +kernel
theorem dB_add_111 : decode b_B_add 111 = .ok (.aload_n 0, 1) := by decide +kernel
theorem dB_add_112 : decode b_B_add 112 = .ok (.getfield 27, 3) := by decide +kernel
theorem dB_add_115 : decode b_B_add 115 = .ok (.aload_n 0, 1) := by decide +kernel
theorem dB_add_116 : decode b_B_add 116 = .ok (.getfield 34, 3) := by decide +kernel
theorem dB_add_119 : decode b_B_add 119 = .ok (.iconst 1, 1) := by decide +kernel
theorem dB_add_120 : decode b_B_add 120 = .ok (.iadd, 1) := by decide +kernel
theorem dB_add_121 : decode b_B_add 121 = .ok (.aload_n 0, 1) := by decide +kernel
theorem dB_add_122 : decode b_B_add 122 = .ok (.getfield 27, 3) := by decide +kernel
theorem dB_add_125 : decode b_B_add 125 = .ok (.aload_n 0, 1) := by decide +kernel
theorem dB_add_126 : decode b_B_add 126 = .ok (.getfield 34, 3) := by decide +kernel
theorem dB_add_129 : decode b_B_add 129 = .ok (.iaload, 1) := by decide +kernel
theorem dB_add_130 : decode b_B_add 130 = .ok (.iload_n 1, 1) := by decide +kernel
theorem dB_add_131 : decode b_B_add 131 = .ok (.iconst 4, 1) := by decide +kernel
theorem dB_add_132 : decode b_B_add 132 = .ok (.if_icmp .ne 7, 3) := by decide +kernel
theorem dB_add_135 : decode b_B_add 135 = .ok (.iload_n 3, 1) := by decide +kernel
theorem dB_add_136 : decode b_B_add 136 = .ok (.goto 4, 3) := by decide +kernel
theorem dB_add_139 : decode b_B_add 139 = .ok (.iconst 1, 1) := by decide +kernel
theorem dB_add_140 : decode b_B_add 140 = .ok (.imul, 1) := by decide +kernel
theorem dB_add_141 : decode b_B_add 141 = .ok (.iastore, 1) := by decide +kernel
theorem dB_add_142 : decode b_B_add 142 = .ok (.aload_n 0, 1) := by decide +kernel
theorem dB_add_143 : decode b_B_add 143 = .ok (.dup, 1) := by decide +kernel
theorem dB_add_144 : decode b_B_add 144 = .ok (.getfield 34, 3) := by decide +kernel
theorem dB_add_147 : decode b_B_add 147 = .ok (.iconst 1, 1) := by decide +kernel
theorem dB_add_148 : decode b_B_add 148 = .ok (.iadd, 1) := by decide +kernel
theorem dB_add_149 : decode b_B_add 149 = .ok (.putfield 34, 3) := by decide +kernel
theorem dB_add_152 : decode b_B_add 152 = .ok (.return_, 1) := by decide +kernel
theorem dB_closeOf_0 : decode b_B_closeOf 0 = .ok (.aload_n 0, 1) := by decide +kernel
theorem dB_closeOf_1 : decode b_B_closeOf 1 = .ok (.getfield 21, 3) := by decide +kernel
theorem dB_closeOf_4 : decode b_B_closeOf 4 = .ok (.iload_n 1, 1) := by decide +kernel
theorem dB_closeOf_5 : decode b_B_closeOf 5 = .ok (.iaload, 1) := by decide +kernel
theorem dB_closeOf_6 : decode b_B_closeOf 6 = .ok (.aload_n 0, 1) := by decide +kernel
theorem dB_closeOf_7 : decode b_B_closeOf 7 = .ok (.getfield 30, 3) := by decide +kernel
theorem dB_closeOf_10 : decode b_B_closeOf 10 = .ok (.invokestatic 37, 3) := by decide +kernel
theorem dB_closeOf_13 : decode b_B_closeOf 13 = .ok (.ireturn, 1) := by decide +kernel
theorem dB_endOfIf_0 : decode b_B_endOfIf 0 = .ok (.aload_n 0, 1) := by decide +kernel
theorem dB_endOfIf_1 : decode b_B_endOfIf 1 = .ok (.iload_n 1, 1) := by decide +kernel
theorem dB_endOfIf_2 : decode b_B_endOfIf 2 = .ok (.invokevirtual 43, 3) := by decide +kernel
theorem dB_endOfIf_5 : decode b_B_endOfIf 5 = .ok (.istore_n 2, 1) := by decide +kernel
theorem dB_endOfIf_6 : decode b_B_endOfIf 6 = .ok (.iload_n 2, 1) := by decide +kernel
theorem dB_endOfIf_7 : decode b_B_endOfIf 7 = .ok (.aload_n 0, 1) := by decide +kernel
theorem dB_endOfIf_8 : decode b_B_endOfIf 8 = .ok (.getfield 30, 3) := by decide +kernel
theorem dB_endOfIf_11 : decode b_B_endOfIf 11 = .ok (.if_icmp .ge 21, 3) := by decide +kernel
theorem dB_endOfIf_14 : decode b_B_endOfIf 14 = .ok (.aload_n 0, 1) := by decide +kernel
theorem dB_endOfIf_15 : decode b_B_endOfIf 15 = .ok (.getfield 9, 3) := by decide +kernel
theorem dB_endOfIf_18 : decode b_B_endOfIf 18 = .ok (.iload_n 2, 1) := by decide +kernel
theorem dB_endOfIf_19 : decode b_B_endOfIf 19 = .ok (.iaload, 1) := by decide +kernel
theorem dB_endOfIf_20 : decode b_B_endOfIf 20 = .ok (.iconst 3, 1) := by decide +kernel
theorem dB_endOfIf_21 : decode b_B_endOfIf 21 = .ok (.if_icmp .ne 11, 3) := by decide +kernel
theorem dB_endOfIf_24 : decode b_B_endOfIf 24 = .ok (.aload_n 0, 1) := by decide +kernel
theorem dB_endOfIf_25 : decode b_B_endOfIf 25 = .ok (.iload_n 2, 1) := by decide +kernel
theorem dB_endOfIf_26 : decode b_B_endOfIf 26 = .ok (.invokevirtual 43, 3) := by decide +kernel
theorem dB_endOfIf_29 : decode b_B_endOfIf 29 = .ok (.goto 4, 3) := by decide +kernel
theorem dB_endOfIf_32 : decode b_B_endOfIf 32 = .ok (.iload_n 2, 1) := by decide +kernel
theorem dB_endOfIf_33 : decode b_B_endOfIf 33 = .ok (.ireturn, 1) := by decide +kernel
theorem dB_hasRoomFor_0 : decode b_B_hasRoomFor 0 = .ok (.iload_n 1, 1) := by decide +kernel
theorem dB_hasRoomFor_1 : decode b_B_hasRoomFor 1 = .ok (.lookupswitch 73 #[(3, 27), (5, 60)], 27) := by decide +kernel
theorem dB_hasRoomFor_28 : decode b_B_hasRoomFor 28 = .ok (.aload_n 0, 1) := by decide +kernel
theorem dB_hasRoomFor_29 : decode b_B_hasRoomFor 29 = .ok (.getfield 34, 3) := by decide +kernel
theorem dB_hasRoomFor_32 : decode b_B_hasRoomFor 32 = .ok (.ifCond .le 27, 3) := by decide +kernel
theorem dB_hasRoomFor_35 : decode b_B_hasRoomFor 35 = .ok (.aload_n 0, 1) := by decide +kernel
theorem dB_hasRoomFor_36 : decode b_B_hasRoomFor 36 = .ok (.getfield 9, 3) := by decide +kernel
theorem dB_hasRoomFor_39 : decode b_B_hasRoomFor 39 = .ok (.aload_n 0, 1) := by decide +kernel
theorem dB_hasRoomFor_40 : decode b_B_hasRoomFor 40 = .ok (.getfield 24, 3) := by decide +kernel
theorem dB_hasRoomFor_43 : decode b_B_hasRoomFor 43 = .ok (.aload_n 0, 1) := by decide +kernel
theorem dB_hasRoomFor_44 : decode b_B_hasRoomFor 44 = .ok (.getfield 34, 3) := by decide +kernel
theorem dB_hasRoomFor_47 : decode b_B_hasRoomFor 47 = .ok (.iconst 1, 1) := by decide +kernel
theorem dB_hasRoomFor_48 : decode b_B_hasRoomFor 48 = .ok (.isub, 1) := by decide +kernel
theorem dB_hasRoomFor_49 : decode b_B_hasRoomFor 49 = .ok (.iaload, 1) := by decide +kernel
theorem dB_hasRoomFor_50 : decode b_B_hasRoomFor 50 = .ok (.iaload, 1) := by decide +kernel
theorem dB_hasRoomFor_51 : decode b_B_hasRoomFor 51 = .ok (.iconst 2, 1) := by decide +kernel
theorem dB_hasRoomFor_52 : decode b_B_hasRoomFor 52 = .ok (.if_icmp .ne 7, 3) := by decide +kernel
theorem dB_hasRoomFor_55 : decode b_B_hasRoomFor 55 = .ok (.iconst 1, 1) := by decide +kernel
theorem dB_hasRoomFor_56 : decode b_B_hasRoomFor 56 = .ok (.goto 4, 3) := by decide +kernel
theorem dB_hasRoomFor_59 : decode b_B_hasRoomFor 59 = .ok (.iconst 0, 1) := by decide +kernel
theorem dB_hasRoomFor_60 : decode b_B_hasRoomFor 60 = .ok (.ireturn, 1) := by decide +kernel
theorem dB_hasRoomFor_61 : decode b_B_hasRoomFor 61 = .ok (.aload_n 0, 1) := by decide +kernel
theorem dB_hasRoomFor_62 : decode b_B_hasRoomFor 62 = .ok (.getfield 34, 3) := by decide +kernel
theorem dB_hasRoomFor_65 : decode b_B_hasRoomFor 65 = .ok (.ifCond .le 7, 3) := by decide +kernel
theorem dB_hasRoomFor_68 : decode b_B_hasRoomFor 68 = .ok (.iconst 1, 1) := by decide +kernel
theorem dB_hasRoomFor_69 : decode b_B_hasRoomFor 69 = .ok (.goto 4, 3) := by decide +kernel
theorem dB_hasRoomFor_72 : decode b_B_hasRoomFor 72 = .ok (.iconst 0, 1) := by decide +kernel
theorem dB_hasRoomFor_73 : decode b_B_hasRoomFor 73 = .ok (.ireturn, 1) := by decide +kernel
theorem dB_hasRoomFor_74 : decode b_B_hasRoomFor 74 = .ok (.iconst 1, 1) := by decide +kernel
theorem dB_hasRoomFor_75 : decode b_B_hasRoomFor 75 = .ok (.ireturn, 1) := by decide +kernel
theorem dB_init_0 : decode b_B_init 0 = .ok (.aload_n 0, 1) := by decide +kernel
theorem dB_init_1 : decode b_B_init 1 = .ok (.invokespecial 3, 3) := by decide +kernel
theorem dB_init_4 : decode b_B_init 4 = .ok (.aload_n 0, 1) := by decide +kernel
theorem dB_init_5 : decode b_B_init 5 = .ok (.bipush 12, 2) := by decide +kernel
theorem dB_init_7 : decode b_B_init 7 = .ok (.newarray .int, 2) := by decide +kernel
theorem dB_init_9 : decode b_B_init 9 = .ok (.putfield 9, 3) := by decide +kernel
theorem dB_init_12 : decode b_B_init 12 = .ok (.aload_n 0, 1) := by decide +kernel
theorem dB_init_13 : decode b_B_init 13 = .ok (.bipush 12, 2) := by decide +kernel
theorem dB_init_15 : decode b_B_init 15 = .ok (.newarray .int, 2) := by decide +kernel
theorem dB_init_17 : decode b_B_init 17 = .ok (.putfield 15, 3) := by decide +kernel
theorem dB_init_20 : decode b_B_init 20 = .ok (.aload_n 0, 1) := by decide +kernel
theorem dB_init_21 : decode b_B_init 21 = .ok (.bipush 12, 2) := by decide +kernel
theorem dB_init_23 : decode b_B_init 23 = .ok (.newarray .int, 2) := by decide +kernel
theorem dB_init_25 : decode b_B_init 25 = .ok (.putfield 18, 3) := by decide +kernel
theorem dB_init_28 : decode b_B_init 28 = .ok (.aload_n 0, 1) := by decide +kernel
theorem dB_init_29 : decode b_B_init 29 = .ok (.bipush 12, 2) := by decide +kernel
theorem dB_init_31 : decode b_B_init 31 = .ok (.newarray .int, 2) := by decide +kernel
theorem dB_init_33 : decode b_B_init 33 = .ok (.putfield 21, 3) := by decide +kernel
theorem dB_init_36 : decode b_B_init 36 = .ok (.aload_n 0, 1) := by decide +kernel
theorem dB_init_37 : decode b_B_init 37 = .ok (.bipush 12, 2) := by decide +kernel
theorem dB_init_39 : decode b_B_init 39 = .ok (.newarray .int, 2) := by decide +kernel
theorem dB_init_41 : decode b_B_init 41 = .ok (.putfield 24, 3) := by decide +kernel
theorem dB_init_44 : decode b_B_init 44 = .ok (.aload_n 0, 1) := by decide +kernel
theorem dB_init_45 : decode b_B_init 45 = .ok (.bipush 13, 2) := by decide +kernel
theorem dB_init_47 : decode b_B_init 47 = .ok (.newarray .int, 2) := by decide +kernel
theorem dB_init_49 : decode b_B_init 49 = .ok (.putfield 27, 3) := by decide +kernel
theorem dB_init_52 : decode b_B_init 52 = .ok (.aload_n 0, 1) := by decide +kernel
theorem dB_init_53 : decode b_B_init 53 = .ok (.getfield 27, 3) := by decide +kernel
theorem dB_init_56 : decode b_B_init 56 = .ok (.iconst 0, 1) := by decide +kernel
theorem dB_init_57 : decode b_B_init 57 = .ok (.iconst 1, 1) := by decide +kernel
theorem dB_init_58 : decode b_B_init 58 = .ok (.iastore, 1) := by decide +kernel
theorem dB_init_59 : decode b_B_init 59 = .ok (.return_, 1) := by decide +kernel
theorem dB_isFull_0 : decode b_B_isFull 0 = .ok (.aload_n 0, 1) := by decide +kernel
theorem dB_isFull_1 : decode b_B_isFull 1 = .ok (.getfield 30, 3) := by decide +kernel
theorem dB_isFull_4 : decode b_B_isFull 4 = .ok (.bipush 12, 2) := by decide +kernel
theorem dB_isFull_6 : decode b_B_isFull 6 = .ok (.if_icmp .lt 7, 3) := by decide +kernel
theorem dB_isFull_9 : decode b_B_isFull 9 = .ok (.iconst 1, 1) := by decide +kernel
theorem dB_isFull_10 : decode b_B_isFull 10 = .ok (.goto 4, 3) := by decide +kernel
theorem dB_isFull_13 : decode b_B_isFull 13 = .ok (.iconst 0, 1) := by decide +kernel
theorem dB_isFull_14 : decode b_B_isFull 14 = .ok (.ireturn, 1) := by decide +kernel
theorem dB_timesDone_0 : decode b_B_timesDone 0 = .ok (.aload_n 0, 1) := by decide +kernel
theorem dB_timesDone_1 : decode b_B_timesDone 1 = .ok (.getfield 27, 3) := by decide +kernel
theorem dB_timesDone_4 : decode b_B_timesDone 4 = .ok (.aload_n 0, 1) := by decide +kernel
theorem dB_timesDone_5 : decode b_B_timesDone 5 = .ok (.getfield 34, 3) := by decide +kernel
theorem dB_timesDone_8 : decode b_B_timesDone 8 = .ok (.iaload, 1) := by decide +kernel
theorem dB_timesDone_9 : decode b_B_timesDone 9 = .ok (.ireturn, 1) := by decide +kernel
theorem dC_calls_0 : decode b_C_calls 0 = .ok (.aload_n 0, 1) := by decide +kernel
theorem dC_calls_1 : decode b_C_calls 1 = .ok (.iload_n 1, 1) := by decide +kernel
theorem dC_calls_2 : decode b_C_calls 2 = .ok (.invokevirtual 98, 3) := by decide +kernel
theorem dC_calls_5 : decode b_C_calls 5 = .ok (.ifCond .eq 11, 3) := by decide +kernel
theorem dC_calls_8 : decode b_C_calls 8 = .ok (.aload_n 0, 1) := by decide +kernel
theorem dC_calls_9 : decode b_C_calls 9 = .ok (.iload_n 2, 1) := by decide +kernel
theorem dC_calls_10 : decode b_C_calls 10 = .ok (.invokevirtual 98, 3) := by decide +kernel
theorem dC_calls_13 : decode b_C_calls 13 = .ok (.ifCond .ne 5, 3) := by decide +kernel
theorem dC_calls_16 : decode b_C_calls 16 = .ok (.iconst (-1), 1) := by decide +kernel
theorem dC_calls_17 : decode b_C_calls 17 = .ok (.ireturn, 1) := by decide +kernel
theorem dC_calls_18 : decode b_C_calls 18 = .ok (.aload_n 0, 1) := by decide +kernel
theorem dC_calls_19 : decode b_C_calls 19 = .ok (.getfield 19, 3) := by decide +kernel
theorem dC_calls_22 : decode b_C_calls 22 = .ok (.aload_n 0, 1) := by decide +kernel
theorem dC_calls_23 : decode b_C_calls 23 = .ok (.getfield 23, 3) := by decide +kernel
theorem dC_calls_26 : decode b_C_calls 26 = .ok (.iload_n 1, 1) := by decide +kernel
theorem dC_calls_27 : decode b_C_calls 27 = .ok (.iaload, 1) := by decide +kernel
theorem dC_calls_28 : decode b_C_calls 28 = .ok (.iload_n 2, 1) := by decide +kernel
theorem dC_calls_29 : decode b_C_calls 29 = .ok (.invokevirtual 135, 3) := by decide +kernel
theorem dC_calls_32 : decode b_C_calls 32 = .ok (.ifCond .eq 7, 3) := by decide +kernel
theorem dC_calls_35 : decode b_C_calls 35 = .ok (.iconst 1, 1) := by decide +kernel
theorem dC_calls_36 : decode b_C_calls 36 = .ok (.goto 4, 3) := by decide +kernel
theorem dC_calls_39 : decode b_C_calls 39 = .ok (.iconst 0, 1) := by decide +kernel
theorem dC_calls_40 : decode b_C_calls 40 = .ok (.ireturn, 1) := by decide +kernel
theorem dC_chargeFor_0 : decode b_C_chargeFor 0 = .ok (.iload_n 2, 1) := by decide +kernel
theorem dC_chargeFor_1 : decode b_C_chargeFor 1 = .ok (.tableswitch 41 3 5 #[27, 29, 27], 27) := by decide +kernel
theorem dC_chargeFor_28 : decode b_C_chargeFor 28 = .ok (.iconst 1, 1) := by decide +kernel
theorem dC_chargeFor_29 : decode b_C_chargeFor 29 = .ok (.ireturn, 1) := by decide +kernel
theorem dC_chargeFor_30 : decode b_C_chargeFor 30 = .ok (.aload_n 0, 1) := by decide +kernel
theorem dC_chargeFor_31 : decode b_C_chargeFor 31 = .ok (.getfield 19, 3) := by decide +kernel
theorem dC_chargeFor_34 : decode b_C_chargeFor 34 = .ok (.iload_n 1, 1) := by decide +kernel
theorem dC_chargeFor_35 : decode b_C_chargeFor 35 = .ok (.iconst (-1), 1) := by decide +kernel
theorem dC_chargeFor_36 : decode b_C_chargeFor 36 = .ok (.iload 4, 2) := by decide +kernel
theorem dC_chargeFor_38 : decode b_C_chargeFor 38 = .ok (.invokevirtual 156, 3) := by decide +kernel
theorem dC_chargeFor_41 : decode b_C_chargeFor 41 = .ok (.ireturn, 1) := by decide +kernel
theorem dC_chargeFor_42 : decode b_C_chargeFor 42 = .ok (.aload_n 0, 1) := by decide +kernel
theorem dC_chargeFor_43 : decode b_C_chargeFor 43 = .ok (.getfield 19, 3) := by decide +kernel
theorem dC_chargeFor_46 : decode b_C_chargeFor 46 = .ok (.iload_n 1, 1) := by decide +kernel
theorem dC_chargeFor_47 : decode b_C_chargeFor 47 = .ok (.iload_n 3, 1) := by decide +kernel
theorem dC_chargeFor_48 : decode b_C_chargeFor 48 = .ok (.iload 4, 2) := by decide +kernel
theorem dC_chargeFor_50 : decode b_C_chargeFor 50 = .ok (.invokevirtual 156, 3) := by decide +kernel
theorem dC_chargeFor_53 : decode b_C_chargeFor 53 = .ok (.ireturn, 1) := by decide +kernel
theorem dC_cost_0 : decode b_C_cost 0 = .ok (.aload_n 0, 1) := by decide +kernel
theorem dC_cost_1 : decode b_C_cost 1 = .ok (.iload_n 1, 1) := by decide +kernel
theorem dC_cost_2 : decode b_C_cost 2 = .ok (.invokevirtual 73, 3) := by decide +kernel
theorem dC_cost_5 : decode b_C_cost 5 = .ok (.ifCond .eq 15, 3) := by decide +kernel
theorem dC_cost_8 : decode b_C_cost 8 = .ok (.aload_n 0, 1) := by decide +kernel
theorem dC_cost_9 : decode b_C_cost 9 = .ok (.getfield 19, 3) := by decide +kernel
theorem dC_cost_12 : decode b_C_cost 12 = .ok (.getfield 132, 3) := by decide +kernel
theorem dC_cost_15 : decode b_C_cost 15 = .ok (.iload_n 1, 1) := by decide +kernel
theorem dC_cost_16 : decode b_C_cost 16 = .ok (.iaload, 1) := by decide +kernel
theorem dC_cost_17 : decode b_C_cost 17 = .ok (.goto 4, 3) := by decide +kernel
theorem dC_cost_20 : decode b_C_cost 20 = .ok (.iconst (-1), 1) := by decide +kernel
theorem dC_cost_21 : decode b_C_cost 21 = .ok (.ireturn, 1) := by decide +kernel
theorem dC_count_0 : decode b_C_count 0 = .ok (.iload_n 1, 1) := by decide +kernel
theorem dC_count_1 : decode b_C_count 1 = .ok (.tableswitch 63 0 3 #[31, 42, 47, 55], 31) := by decide +kernel
theorem dC_count_32 : decode b_C_count 32 = .ok (.aload_n 0, 1) := by decide +kernel
theorem dC_count_33 : decode b_C_count 33 = .ok (.getfield 10, 3) := by decide +kernel
theorem dC_count_36 : decode b_C_count 36 = .ok (.getfield 40, 3) := by decide +kernel
theorem dC_count_39 : decode b_C_count 39 = .ok (.getfield 138, 3) := by decide +kernel
theorem dC_count_42 : decode b_C_count 42 = .ok (.ireturn, 1) := by decide +kernel
theorem dC_count_43 : decode b_C_count 43 = .ok (.aload_n 0, 1) := by decide +kernel
theorem dC_count_44 : decode b_C_count 44 = .ok (.getfield 36, 3) := by decide +kernel
theorem dC_count_47 : decode b_C_count 47 = .ok (.ireturn, 1) := by decide +kernel
theorem dC_count_48 : decode b_C_count 48 = .ok (.aload_n 0, 1) := by decide +kernel
theorem dC_count_49 : decode b_C_count 49 = .ok (.getfield 10, 3) := by decide +kernel
theorem dC_count_52 : decode b_C_count 52 = .ok (.invokevirtual 141, 3) := by decide +kernel
theorem dC_count_55 : decode b_C_count 55 = .ok (.ireturn, 1) := by decide +kernel
theorem dC_count_56 : decode b_C_count 56 = .ok (.aload_n 0, 1) := by decide +kernel
theorem dC_count_57 : decode b_C_count 57 = .ok (.getfield 10, 3) := by decide +kernel
theorem dC_count_60 : decode b_C_count 60 = .ok (.invokevirtual 144, 3) := by decide +kernel
theorem dC_count_63 : decode b_C_count 63 = .ok (.ireturn, 1) := by decide +kernel
theorem dC_count_64 : decode b_C_count 64 = .ok (.iconst (-1), 1) := by decide +kernel
theorem dC_count_65 : decode b_C_count 65 = .ok (.ireturn, 1) := by decide +kernel
theorem dC_derive_0 : decode b_C_derive 0 = .ok (.aload_n 0, 1) := by decide +kernel
theorem dC_derive_1 : decode b_C_derive 1 = .ok (.iload_n 1, 1) := by decide +kernel
theorem dC_derive_2 : decode b_C_derive 2 = .ok (.invokevirtual 98, 3) := by decide +kernel
theorem dC_derive_5 : decode b_C_derive 5 = .ok (.ifCond .eq 11, 3) := by decide +kernel
theorem dC_derive_8 : decode b_C_derive 8 = .ok (.iload_n 2, 1) := by decide +kernel
theorem dC_derive_9 : decode b_C_derive 9 = .ok (.iconst 2, 1) := by decide +kernel
theorem dC_derive_10 : decode b_C_derive 10 = .ok (.invokestatic 101, 3) := by decide +kernel
theorem dC_derive_13 : decode b_C_derive 13 = .ok (.ifCond .ne 5, 3) := by decide +kernel
theorem dC_derive_16 : decode b_C_derive 16 = .ok (.iconst (-1), 1) := by decide +kernel
theorem dC_derive_17 : decode b_C_derive 17 = .ok (.ireturn, 1) := by decide +kernel
theorem dC_derive_18 : decode b_C_derive 18 = .ok (.aload_n 0, 1) := by decide +kernel
theorem dC_derive_19 : decode b_C_derive 19 = .ok (.getfield 33, 3) := by decide +kernel
theorem dC_derive_22 : decode b_C_derive 22 = .ok (.iload_n 1, 1) := by decide +kernel
theorem dC_derive_23 : decode b_C_derive 23 = .ok (.iaload, 1) := by decide +kernel
theorem dC_derive_24 : decode b_C_derive 24 = .ok (.iconst 2, 1) := by decide +kernel
theorem dC_derive_25 : decode b_C_derive 25 = .ok (.if_icmp .ge 12, 3) := by decide +kernel
theorem dC_derive_28 : decode b_C_derive 28 = .ok (.aload_n 0, 1) := by decide +kernel
theorem dC_derive_29 : decode b_C_derive 29 = .ok (.getfield 36, 3) := by decide +kernel
theorem dC_derive_32 : decode b_C_derive 32 = .ok (.bipush 8, 2) := by decide +kernel
theorem dC_derive_34 : decode b_C_derive 34 = .ok (.if_icmp .lt 5, 3) := by decide +kernel
theorem dC_derive_37 : decode b_C_derive 37 = .ok (.iconst (-1), 1) := by decide +kernel
theorem dC_derive_38 : decode b_C_derive 38 = .ok (.ireturn, 1) := by decide +kernel
theorem dC_derive_39 : decode b_C_derive 39 = .ok (.aload_n 0, 1) := by decide +kernel
theorem dC_derive_40 : decode b_C_derive 40 = .ok (.getfield 36, 3) := by decide +kernel
theorem dC_derive_43 : decode b_C_derive 43 = .ok (.istore_n 3, 1) := by decide +kernel
theorem dC_derive_44 : decode b_C_derive 44 = .ok (.aload_n 0, 1) := by decide +kernel
theorem dC_derive_45 : decode b_C_derive 45 = .ok (.dup, 1) := by decide +kernel
theorem dC_derive_46 : decode b_C_derive 46 = .ok (.getfield 36, 3) := by decide +kernel
theorem dC_derive_49 : decode b_C_derive 49 = .ok (.iconst 1, 1) := by decide +kernel
theorem dC_derive_50 : decode b_C_derive 50 = .ok (.iadd, 1) := by decide +kernel
theorem dC_derive_51 : decode b_C_derive 51 = .ok (.putfield 36, 3) := by decide +kernel
theorem dC_derive_54 : decode b_C_derive 54 = .ok (.aload_n 0, 1) := by decide +kernel
theorem dC_derive_55 : decode b_C_derive 55 = .ok (.getfield 23, 3) := by decide +kernel
theorem dC_derive_58 : decode b_C_derive 58 = .ok (.iload_n 3, 1) := by decide +kernel
theorem dC_derive_59 : decode b_C_derive 59 = .ok (.aload_n 0, 1) := by decide +kernel
theorem dC_derive_60 : decode b_C_derive 60 = .ok (.getfield 23, 3) := by decide +kernel
theorem dC_derive_63 : decode b_C_derive 63 = .ok (.iload_n 1, 1) := by decide +kernel
theorem dC_derive_64 : decode b_C_derive 64 = .ok (.iaload, 1) := by decide +kernel
theorem dC_derive_65 : decode b_C_derive 65 = .ok (.iastore, 1) := by decide +kernel
theorem dC_derive_66 : decode b_C_derive 66 = .ok (.aload_n 0, 1) := by decide +kernel
theorem dC_derive_67 : decode b_C_derive 67 = .ok (.getfield 27, 3) := by decide +kernel
theorem dC_derive_70 : decode b_C_derive 70 = .ok (.iload_n 3, 1) := by decide +kernel
theorem dC_derive_71 : decode b_C_derive 71 = .ok (.iload_n 1, 1) := by decide +kernel
theorem dC_derive_72 : decode b_C_derive 72 = .ok (.iastore, 1) := by decide +kernel
theorem dC_derive_73 : decode b_C_derive 73 = .ok (.aload_n 0, 1) := by decide +kernel
theorem dC_derive_74 : decode b_C_derive 74 = .ok (.getfield 30, 3) := by decide +kernel
theorem dC_derive_77 : decode b_C_derive 77 = .ok (.iload_n 3, 1) := by decide +kernel
theorem dC_derive_78 : decode b_C_derive 78 = .ok (.iload_n 2, 1) := by decide +kernel
theorem dC_derive_79 : decode b_C_derive 79 = .ok (.iastore, 1) := by decide +kernel
theorem dC_derive_80 : decode b_C_derive 80 = .ok (.aload_n 0, 1) := by decide +kernel
theorem dC_derive_81 : decode b_C_derive 81 = .ok (.getfield 33, 3) := by decide +kernel
theorem dC_derive_84 : decode b_C_derive 84 = .ok (.iload_n 3, 1) := by decide +kernel
theorem dC_derive_85 : decode b_C_derive 85 = .ok (.aload_n 0, 1) := by decide +kernel
theorem dC_derive_86 : decode b_C_derive 86 = .ok (.getfield 33, 3) := by decide +kernel
theorem dC_derive_89 : decode b_C_derive 89 = .ok (.iload_n 1, 1) := by decide +kernel
theorem dC_derive_90 : decode b_C_derive 90 = .ok (.iaload, 1) := by decide +kernel
theorem dC_derive_91 : decode b_C_derive 91 = .ok (.iconst 1, 1) := by decide +kernel
theorem dC_derive_92 : decode b_C_derive 92 = .ok (.iadd, 1) := by decide +kernel
theorem dC_derive_93 : decode b_C_derive 93 = .ok (.iastore, 1) := by decide +kernel
theorem dC_derive_94 : decode b_C_derive 94 = .ok (.iload_n 3, 1) := by decide +kernel
theorem dC_derive_95 : decode b_C_derive 95 = .ok (.ireturn, 1) := by decide +kernel
theorem dC_expression_0 : decode b_C_expression 0 = .ok (.aload_n 0, 1) := by decide +kernel
theorem dC_expression_1 : decode b_C_expression 1 = .ok (.getfield 10, 3) := by decide +kernel
theorem dC_expression_4 : decode b_C_expression 4 = .ok (.getfield 40, 3) := by decide +kernel
theorem dC_expression_7 : decode b_C_expression 7 = .ok (.invokevirtual 44, 3) := by decide +kernel
theorem dC_expression_10 : decode b_C_expression 10 = .ok (.ifCond .ne 15, 3) := by decide +kernel
theorem dC_expression_13 : decode b_C_expression 13 = .ok (.aload_n 0, 1) := by decide +kernel
theorem dC_expression_14 : decode b_C_expression 14 = .ok (.iload_n 1, 1) := by decide +kernel
theorem dC_expression_15 : decode b_C_expression 15 = .ok (.iload_n 2, 1) := by decide +kernel
theorem dC_expression_16 : decode b_C_expression 16 = .ok (.iload_n 3, 1) := by decide +kernel
theorem dC_expression_17 : decode b_C_expression 17 = .ok (.iload 4, 2) := by decide +kernel
theorem dC_expression_19 : decode b_C_expression 19 = .ok (.invokevirtual 50, 3) := by decide +kernel
theorem dC_expression_22 : decode b_C_expression 22 = .ok (.ifCond .ne 5, 3) := by decide +kernel
theorem dC_expression_25 : decode b_C_expression 25 = .ok (.iconst (-1), 1) := by decide +kernel
theorem dC_expression_26 : decode b_C_expression 26 = .ok (.ireturn, 1) := by decide +kernel
theorem dC_expression_27 : decode b_C_expression 27 = .ok (.aload_n 0, 1) := by decide +kernel
theorem dC_expression_28 : decode b_C_expression 28 = .ok (.getfield 10, 3) := by decide +kernel
theorem dC_expression_31 : decode b_C_expression 31 = .ok (.getfield 40, 3) := by decide +kernel
theorem dC_expression_34 : decode b_C_expression 34 = .ok (.iload_n 1, 1) := by decide +kernel
theorem dC_expression_35 : decode b_C_expression 35 = .ok (.iload_n 2, 1) := by decide +kernel
theorem dC_expression_36 : decode b_C_expression 36 = .ok (.iload_n 3, 1) := by decide +kernel
theorem dC_expression_37 : decode b_C_expression 37 = .ok (.iload 4, 2) := by decide +kernel
theorem dC_expression_39 : decode b_C_expression 39 = .ok (.invokevirtual 54, 3) := by decide +kernel
theorem dC_expression_42 : decode b_C_expression 42 = .ok (.istore 5, 2) := by decide +kernel
theorem dC_expression_44 : decode b_C_expression 44 = .ok (.aload_n 0, 1) := by decide +kernel
theorem dC_expression_45 : decode b_C_expression 45 = .ok (.getfield 19, 3) := by decide +kernel
theorem dC_expression_48 : decode b_C_expression 48 = .ok (.iload 5, 2) := by decide +kernel
theorem dC_expression_50 : decode b_C_expression 50 = .ok (.iload_n 1, 1) := by decide +kernel
theorem dC_expression_51 : decode b_C_expression 51 = .ok (.iload_n 2, 1) := by decide +kernel
theorem dC_expression_52 : decode b_C_expression 52 = .ok (.iload_n 3, 1) := by decide +kernel
theorem dC_expression_53 : decode b_C_expression 53 = .ok (.iload 4, 2) := by decide +kernel
theorem dC_expression_55 : decode b_C_expression 55 = .ok (.invokevirtual 58, 3) := by decide +kernel
theorem dC_expression_58 : decode b_C_expression 58 = .ok (.iload 5, 2) := by decide +kernel
theorem dC_expression_60 : decode b_C_expression 60 = .ok (.ireturn, 1) := by decide +kernel
theorem dC_function_0 : decode b_C_function 0 = .ok (.aload_n 0, 1) := by decide +kernel
theorem dC_function_1 : decode b_C_function 1 = .ok (.getfield 36, 3) := by decide +kernel
theorem dC_function_4 : decode b_C_function 4 = .ok (.bipush 8, 2) := by decide +kernel
theorem dC_function_6 : decode b_C_function 6 = .ok (.if_icmp .lt 5, 3) := by decide +kernel
theorem dC_function_9 : decode b_C_function 9 = .ok (.iconst (-1), 1) := by decide +kernel
theorem dC_function_10 : decode b_C_function 10 = .ok (.ireturn, 1) := by decide +kernel
theorem dC_function_11 : decode b_C_function 11 = .ok (.aload_n 0, 1) := by decide +kernel
theorem dC_function_12 : decode b_C_function 12 = .ok (.getfield 36, 3) := by decide +kernel
theorem dC_function_15 : decode b_C_function 15 = .ok (.istore_n 1, 1) := by decide +kernel
theorem dC_function_16 : decode b_C_function 16 = .ok (.aload_n 0, 1) := by decide +kernel
theorem dC_function_17 : decode b_C_function 17 = .ok (.dup, 1) := by decide +kernel
theorem dC_function_18 : decode b_C_function 18 = .ok (.getfield 36, 3) := by decide +kernel
theorem dC_function_21 : decode b_C_function 21 = .ok (.iconst 1, 1) := by decide +kernel
theorem dC_function_22 : decode b_C_function 22 = .ok (.iadd, 1) := by decide +kernel
theorem dC_function_23 : decode b_C_function 23 = .ok (.putfield 36, 3) := by decide +kernel
theorem dC_function_26 : decode b_C_function 26 = .ok (.aload_n 0, 1) := by decide +kernel
theorem dC_function_27 : decode b_C_function 27 = .ok (.getfield 23, 3) := by decide +kernel
theorem dC_function_30 : decode b_C_function 30 = .ok (.iload_n 1, 1) := by decide +kernel
theorem dC_function_31 : decode b_C_function 31 = .ok (.iload_n 1, 1) := by decide +kernel
theorem dC_function_32 : decode b_C_function 32 = .ok (.iastore, 1) := by decide +kernel
theorem dC_function_33 : decode b_C_function 33 = .ok (.aload_n 0, 1) := by decide +kernel
theorem dC_function_34 : decode b_C_function 34 = .ok (.getfield 10, 3) := by decide +kernel
theorem dC_function_37 : decode b_C_function 37 = .ok (.getfield 62, 3) := by decide +kernel
theorem dC_function_40 : decode b_C_function 40 = .ok (.iload_n 1, 1) := by decide +kernel
theorem dC_function_41 : decode b_C_function 41 = .ok (.new 66, 3) := by decide +kernel
theorem dC_function_44 : decode b_C_function 44 = .ok (.dup, 1) := by decide +kernel
theorem dC_function_45 : decode b_C_function 45 = .ok (.invokespecial 68, 3) := by decide +kernel
theorem dC_function_48 : decode b_C_function 48 = .ok (.aastore, 1) := by decide +kernel
theorem dC_function_49 : decode b_C_function 49 = .ok (.aload_n 0, 1) := by decide +kernel
theorem dC_function_50 : decode b_C_function 50 = .ok (.getfield 19, 3) := by decide +kernel
theorem dC_function_53 : decode b_C_function 53 = .ok (.iload_n 1, 1) := by decide +kernel
theorem dC_function_54 : decode b_C_function 54 = .ok (.invokevirtual 69, 3) := by decide +kernel
theorem dC_function_57 : decode b_C_function 57 = .ok (.iload_n 1, 1) := by decide +kernel
theorem dC_function_58 : decode b_C_function 58 = .ok (.ireturn, 1) := by decide +kernel
theorem dC_gradient_0 : decode b_C_gradient 0 = .ok (.aload_n 0, 1) := by decide +kernel
theorem dC_gradient_1 : decode b_C_gradient 1 = .ok (.iload_n 1, 1) := by decide +kernel
theorem dC_gradient_2 : decode b_C_gradient 2 = .ok (.invokevirtual 73, 3) := by decide +kernel
theorem dC_gradient_5 : decode b_C_gradient 5 = .ok (.ifCond .eq 11, 3) := by decide +kernel
theorem dC_gradient_8 : decode b_C_gradient 8 = .ok (.iload_n 2, 1) := by decide +kernel
theorem dC_gradient_9 : decode b_C_gradient 9 = .ok (.iconst 2, 1) := by decide +kernel
theorem dC_gradient_10 : decode b_C_gradient 10 = .ok (.invokestatic 101, 3) := by decide +kernel
theorem dC_gradient_13 : decode b_C_gradient 13 = .ok (.ifCond .ne 7, 3) := by decide +kernel
theorem dC_gradient_16 : decode b_C_gradient 16 = .ok (.ldc2_w 105, 3) := by decide +kernel
theorem dC_gradient_19 : decode b_C_gradient 19 = .ok (.lreturn, 1) := by decide +kernel
theorem dC_gradient_20 : decode b_C_gradient 20 = .ok (.aload_n 0, 1) := by decide +kernel
theorem dC_gradient_21 : decode b_C_gradient 21 = .ok (.getfield 10, 3) := by decide +kernel
theorem dC_gradient_24 : decode b_C_gradient 24 = .ok (.iload_n 1, 1) := by decide +kernel
theorem dC_gradient_25 : decode b_C_gradient 25 = .ok (.lload_n 3, 1) := by decide +kernel
theorem dC_gradient_26 : decode b_C_gradient 26 = .ok (.lload 5, 2) := by decide +kernel
theorem dC_gradient_28 : decode b_C_gradient 28 = .ok (.invokevirtual 107, 3) := by decide +kernel
theorem dC_gradient_31 : decode b_C_gradient 31 = .ok (.istore 7, 2) := by decide +kernel
theorem dC_gradient_33 : decode b_C_gradient 33 = .ok (.aload_n 0, 1) := by decide +kernel
theorem dC_gradient_34 : decode b_C_gradient 34 = .ok (.getfield 10, 3) := by decide +kernel
theorem dC_gradient_37 : decode b_C_gradient 37 = .ok (.getfield 111, 3) := by decide +kernel
theorem dC_gradient_40 : decode b_C_gradient 40 = .ok (.iload 7, 2) := by decide +kernel
theorem dC_gradient_42 : decode b_C_gradient 42 = .ok (.iload_n 2, 1) := by decide +kernel
theorem dC_gradient_43 : decode b_C_gradient 43 = .ok (.invokevirtual 129, 3) := by decide +kernel
theorem dC_gradient_46 : decode b_C_gradient 46 = .ok (.lreturn, 1) := by decide +kernel
theorem dC_init_0 : decode b_C_init 0 = .ok (.aload_n 0, 1) := by decide +kernel
theorem dC_init_1 : decode b_C_init 1 = .ok (.invokespecial 1, 3) := by decide +kernel
theorem dC_init_4 : decode b_C_init 4 = .ok (.aload_n 0, 1) := by decide +kernel
theorem dC_init_5 : decode b_C_init 5 = .ok (.new 7, 3) := by decide +kernel
theorem dC_init_8 : decode b_C_init 8 = .ok (.dup, 1) := by decide +kernel
theorem dC_init_9 : decode b_C_init 9 = .ok (.invokespecial 9, 3) := by decide +kernel
theorem dC_init_12 : decode b_C_init 12 = .ok (.putfield 10, 3) := by decide +kernel
theorem dC_init_15 : decode b_C_init 15 = .ok (.aload_n 0, 1) := by decide +kernel
theorem dC_init_16 : decode b_C_init 16 = .ok (.new 16, 3) := by decide +kernel
theorem dC_init_19 : decode b_C_init 19 = .ok (.dup, 1) := by decide +kernel
theorem dC_init_20 : decode b_C_init 20 = .ok (.invokespecial 18, 3) := by decide +kernel
theorem dC_init_23 : decode b_C_init 23 = .ok (.putfield 19, 3) := by decide +kernel
theorem dC_init_26 : decode b_C_init 26 = .ok (.aload_n 0, 1) := by decide +kernel
theorem dC_init_27 : decode b_C_init 27 = .ok (.bipush 8, 2) := by decide +kernel
theorem dC_init_29 : decode b_C_init 29 = .ok (.newarray .int, 2) := by decide +kernel
theorem dC_init_31 : decode b_C_init 31 = .ok (.putfield 23, 3) := by decide +kernel
theorem dC_init_34 : decode b_C_init 34 = .ok (.aload_n 0, 1) := by decide +kernel
theorem dC_init_35 : decode b_C_init 35 = .ok (.bipush 8, 2) := by decide +kernel
theorem dC_init_37 : decode b_C_init 37 = .ok (.newarray .int, 2) := by decide +kernel
theorem dC_init_39 : decode b_C_init 39 = .ok (.putfield 27, 3) := by decide +kernel
theorem dC_init_42 : decode b_C_init 42 = .ok (.aload_n 0, 1) := by decide +kernel
theorem dC_init_43 : decode b_C_init 43 = .ok (.bipush 8, 2) := by decide +kernel
theorem dC_init_45 : decode b_C_init 45 = .ok (.newarray .int, 2) := by decide +kernel
theorem dC_init_47 : decode b_C_init 47 = .ok (.putfield 30, 3) := by decide +kernel
theorem dC_init_50 : decode b_C_init 50 = .ok (.aload_n 0, 1) := by decide +kernel
theorem dC_init_51 : decode b_C_init 51 = .ok (.bipush 8, 2) := by decide +kernel
theorem dC_init_53 : decode b_C_init 53 = .ok (.newarray .int, 2) := by decide +kernel
theorem dC_init_55 : decode b_C_init 55 = .ok (.putfield 33, 3) := by decide +kernel
theorem dC_init_58 : decode b_C_init 58 = .ok (.aload_n 0, 1) := by decide +kernel
theorem dC_init_59 : decode b_C_init 59 = .ok (.iconst 0, 1) := by decide +kernel
theorem dC_init_60 : decode b_C_init 60 = .ok (.putfield 36, 3) := by decide +kernel
theorem dC_init_63 : decode b_C_init 63 = .ok (.return_, 1) := by decide +kernel
theorem dC_isBelow_0 : decode b_C_isBelow 0 = .ok (.iload_n 0, 1) := by decide +kernel
theorem dC_isBelow_1 : decode b_C_isBelow 1 = .ok (.ifCond .lt 12, 3) := by decide +kernel
theorem dC_isBelow_4 : decode b_C_isBelow 4 = .ok (.iload_n 0, 1) := by decide +kernel
theorem dC_isBelow_5 : decode b_C_isBelow 5 = .ok (.iload_n 1, 1) := by decide +kernel
theorem dC_isBelow_6 : decode b_C_isBelow 6 = .ok (.if_icmp .ge 7, 3) := by decide +kernel
theorem dC_isBelow_9 : decode b_C_isBelow 9 = .ok (.iconst 1, 1) := by decide +kernel
theorem dC_isBelow_10 : decode b_C_isBelow 10 = .ok (.goto 4, 3) := by decide +kernel
theorem dC_isBelow_13 : decode b_C_isBelow 13 = .ok (.iconst 0, 1) := by decide +kernel
theorem dC_isBelow_14 : decode b_C_isBelow 14 = .ok (.ireturn, 1) := by decide +kernel
theorem dC_isMade_0 : decode b_C_isMade 0 = .ok (.iload_n 1, 1) := by decide +kernel
theorem dC_isMade_1 : decode b_C_isMade 1 = .ok (.aload_n 0, 1) := by decide +kernel
theorem dC_isMade_2 : decode b_C_isMade 2 = .ok (.getfield 36, 3) := by decide +kernel
theorem dC_isMade_5 : decode b_C_isMade 5 = .ok (.invokestatic 101, 3) := by decide +kernel
theorem dC_isMade_8 : decode b_C_isMade 8 = .ok (.ireturn, 1) := by decide +kernel
theorem dC_isOwn_0 : decode b_C_isOwn 0 = .ok (.aload_n 0, 1) := by decide +kernel
theorem dC_isOwn_1 : decode b_C_isOwn 1 = .ok (.iload_n 1, 1) := by decide +kernel
theorem dC_isOwn_2 : decode b_C_isOwn 2 = .ok (.invokevirtual 98, 3) := by decide +kernel
theorem dC_isOwn_5 : decode b_C_isOwn 5 = .ok (.ifCond .eq 16, 3) := by decide +kernel
theorem dC_isOwn_8 : decode b_C_isOwn 8 = .ok (.aload_n 0, 1) := by decide +kernel
theorem dC_isOwn_9 : decode b_C_isOwn 9 = .ok (.getfield 33, 3) := by decide +kernel
theorem dC_isOwn_12 : decode b_C_isOwn 12 = .ok (.iload_n 1, 1) := by decide +kernel
theorem dC_isOwn_13 : decode b_C_isOwn 13 = .ok (.iaload, 1) := by decide +kernel
theorem dC_isOwn_14 : decode b_C_isOwn 14 = .ok (.ifCond .ne 7, 3) := by decide +kernel
theorem dC_isOwn_17 : decode b_C_isOwn 17 = .ok (.iconst 1, 1) := by decide +kernel
theorem dC_isOwn_18 : decode b_C_isOwn 18 = .ok (.goto 4, 3) := by decide +kernel
theorem dC_isOwn_21 : decode b_C_isOwn 21 = .ok (.iconst 0, 1) := by decide +kernel
theorem dC_isOwn_22 : decode b_C_isOwn 22 = .ok (.ireturn, 1) := by decide +kernel
theorem dC_isSoundExpression_0 : decode b_C_isSoundExpression 0 = .ok (.iload_n 1, 1) := by decide +kernel
theorem dC_isSoundExpression_1 : decode b_C_isSoundExpression 1 = .ok (.invokestatic 147, 3) := by decide +kernel
theorem dC_isSoundExpression_4 : decode b_C_isSoundExpression 4 = .ok (.ifCond .eq 19, 3) := by decide +kernel
theorem dC_isSoundExpression_7 : decode b_C_isSoundExpression 7 = .ok (.aload_n 0, 1) := by decide +kernel
theorem dC_isSoundExpression_8 : decode b_C_isSoundExpression 8 = .ok (.getfield 10, 3) := by decide +kernel
theorem dC_isSoundExpression_11 : decode b_C_isSoundExpression 11 = .ok (.getfield 40, 3) := by decide +kernel
theorem dC_isSoundExpression_14 : decode b_C_isSoundExpression 14 = .ok (.iload_n 2, 1) := by decide +kernel
theorem dC_isSoundExpression_15 : decode b_C_isSoundExpression 15 = .ok (.invokevirtual 150, 3) := by decide +kernel
theorem dC_isSoundExpression_18 : decode b_C_isSoundExpression 18 = .ok (.ifCond .ne 5, 3) := by decide +kernel
theorem dC_isSoundExpression_21 : decode b_C_isSoundExpression 21 = .ok (.iconst 0, 1) := by decide +kernel
theorem dC_isSoundExpression_22 : decode b_C_isSoundExpression 22 = .ok (.ireturn, 1) := by decide +kernel
theorem dC_isSoundExpression_23 : decode b_C_isSoundExpression 23 = .ok (.iload_n 1, 1) := by decide +kernel
theorem dC_isSoundExpression_24 : decode b_C_isSoundExpression 24 = .ok (.invokestatic 153, 3) := by decide +kernel
theorem dC_isSoundExpression_27 : decode b_C_isSoundExpression 27 = .ok (.ifCond .eq 19, 3) := by decide +kernel
theorem dC_isSoundExpression_30 : decode b_C_isSoundExpression 30 = .ok (.aload_n 0, 1) := by decide +kernel
theorem dC_isSoundExpression_31 : decode b_C_isSoundExpression 31 = .ok (.getfield 10, 3) := by decide +kernel
theorem dC_isSoundExpression_34 : decode b_C_isSoundExpression 34 = .ok (.getfield 40, 3) := by decide +kernel
theorem dC_isSoundExpression_37 : decode b_C_isSoundExpression 37 = .ok (.iload_n 3, 1) := by decide +kernel
theorem dC_isSoundExpression_38 : decode b_C_isSoundExpression 38 = .ok (.invokevirtual 150, 3) := by decide +kernel
theorem dC_isSoundExpression_41 : decode b_C_isSoundExpression 41 = .ok (.ifCond .ne 5, 3) := by decide +kernel
theorem dC_isSoundExpression_44 : decode b_C_isSoundExpression 44 = .ok (.iconst 0, 1) := by decide +kernel
theorem dC_isSoundExpression_45 : decode b_C_isSoundExpression 45 = .ok (.ireturn, 1) := by decide +kernel
theorem dC_isSoundExpression_46 : decode b_C_isSoundExpression 46 = .ok (.iload_n 1, 1) := by decide +kernel
theorem dC_isSoundExpression_47 : decode b_C_isSoundExpression 47 = .ok (.lookupswitch 67 #[(1, 41), (6, 48), (10, 54), (11, 60)], 41) := by decide +kernel
theorem dC_isSoundExpression_88 : decode b_C_isSoundExpression 88 = .ok (.iload_n 2, 1) := by decide +kernel
theorem dC_isSoundExpression_89 : decode b_C_isSoundExpression 89 = .ok (.bipush 6, 2) := by decide +kernel
theorem dC_isSoundExpression_91 : decode b_C_isSoundExpression 91 = .ok (.invokestatic 101, 3) := by decide +kernel
theorem dC_isSoundExpression_94 : decode b_C_isSoundExpression 94 = .ok (.ireturn, 1) := by decide +kernel
theorem dC_isSoundExpression_95 : decode b_C_isSoundExpression 95 = .ok (.iload_n 3, 1) := by decide +kernel
theorem dC_isSoundExpression_96 : decode b_C_isSoundExpression 96 = .ok (.iconst 4, 1) := by decide +kernel
theorem dC_isSoundExpression_97 : decode b_C_isSoundExpression 97 = .ok (.invokestatic 101, 3) := by decide +kernel
theorem dC_isSoundExpression_100 : decode b_C_isSoundExpression 100 = .ok (.ireturn, 1) := by decide +kernel
theorem dC_isSoundExpression_101 : decode b_C_isSoundExpression 101 = .ok (.iload_n 3, 1) := by decide +kernel
theorem dC_isSoundExpression_102 : decode b_C_isSoundExpression 102 = .ok (.iconst 2, 1) := by decide +kernel
theorem dC_isSoundExpression_103 : decode b_C_isSoundExpression 103 = .ok (.invokestatic 101, 3) := by decide +kernel
theorem dC_isSoundExpression_106 : decode b_C_isSoundExpression 106 = .ok (.ireturn, 1) := by decide +kernel
theorem dC_isSoundExpression_107 : decode b_C_isSoundExpression 107 = .ok (.aload_n 0, 1) := by decide +kernel
theorem dC_isSoundExpression_108 : decode b_C_isSoundExpression 108 = .ok (.iload 4, 2) := by decide +kernel
theorem dC_isSoundExpression_110 : decode b_C_isSoundExpression 110 = .ok (.invokevirtual 73, 3) := by decide +kernel
theorem dC_isSoundExpression_113 : decode b_C_isSoundExpression 113 = .ok (.ireturn, 1) := by decide +kernel
theorem dC_isSoundExpression_114 : decode b_C_isSoundExpression 114 = .ok (.iload_n 1, 1) := by decide +kernel
theorem dC_isSoundExpression_115 : decode b_C_isSoundExpression 115 = .ok (.bipush 12, 2) := by decide +kernel
theorem dC_isSoundExpression_117 : decode b_C_isSoundExpression 117 = .ok (.invokestatic 101, 3) := by decide +kernel
theorem dC_isSoundExpression_120 : decode b_C_isSoundExpression 120 = .ok (.ireturn, 1) := by decide +kernel
theorem dC_isSoundStatement_0 : decode b_C_isSoundStatement 0 = .ok (.iload_n 1, 1) := by decide +kernel
theorem dC_isSoundStatement_1 : decode b_C_isSoundStatement 1 = .ok (.tableswitch 120 0 4 #[35, 64, 92, 120, 104], 35) := by decide +kernel
theorem dC_isSoundStatement_36 : decode b_C_isSoundStatement 36 = .ok (.iload_n 2, 1) := by decide +kernel
theorem dC_isSoundStatement_37 : decode b_C_isSoundStatement 37 = .ok (.bipush 6, 2) := by decide +kernel
theorem dC_isSoundStatement_39 : decode b_C_isSoundStatement 39 = .ok (.invokestatic 101, 3) := by decide +kernel
theorem dC_isSoundStatement_42 : decode b_C_isSoundStatement 42 = .ok (.ifCond .eq 21, 3) := by decide +kernel
theorem dC_isSoundStatement_45 : decode b_C_isSoundStatement 45 = .ok (.aload_n 0, 1) := by decide +kernel
theorem dC_isSoundStatement_46 : decode b_C_isSoundStatement 46 = .ok (.getfield 10, 3) := by decide +kernel
theorem dC_isSoundStatement_49 : decode b_C_isSoundStatement 49 = .ok (.getfield 40, 3) := by decide +kernel
theorem dC_isSoundStatement_52 : decode b_C_isSoundStatement 52 = .ok (.iload_n 3, 1) := by decide +kernel
theorem dC_isSoundStatement_53 : decode b_C_isSoundStatement 53 = .ok (.invokevirtual 150, 3) := by decide +kernel
theorem dC_isSoundStatement_56 : decode b_C_isSoundStatement 56 = .ok (.ifCond .eq 7, 3) := by decide +kernel
theorem dC_isSoundStatement_59 : decode b_C_isSoundStatement 59 = .ok (.iconst 1, 1) := by decide +kernel
theorem dC_isSoundStatement_60 : decode b_C_isSoundStatement 60 = .ok (.goto 4, 3) := by decide +kernel
theorem dC_isSoundStatement_63 : decode b_C_isSoundStatement 63 = .ok (.iconst 0, 1) := by decide +kernel
theorem dC_isSoundStatement_64 : decode b_C_isSoundStatement 64 = .ok (.ireturn, 1) := by decide +kernel
theorem dC_isSoundStatement_65 : decode b_C_isSoundStatement 65 = .ok (.iload_n 2, 1) := by decide +kernel
theorem dC_isSoundStatement_66 : decode b_C_isSoundStatement 66 = .ok (.iconst 2, 1) := by decide +kernel
theorem dC_isSoundStatement_67 : decode b_C_isSoundStatement 67 = .ok (.invokestatic 101, 3) := by decide +kernel
theorem dC_isSoundStatement_70 : decode b_C_isSoundStatement 70 = .ok (.ifCond .eq 21, 3) := by decide +kernel
theorem dC_isSoundStatement_73 : decode b_C_isSoundStatement 73 = .ok (.aload_n 0, 1) := by decide +kernel
theorem dC_isSoundStatement_74 : decode b_C_isSoundStatement 74 = .ok (.getfield 10, 3) := by decide +kernel
theorem dC_isSoundStatement_77 : decode b_C_isSoundStatement 77 = .ok (.getfield 40, 3) := by decide +kernel
theorem dC_isSoundStatement_80 : decode b_C_isSoundStatement 80 = .ok (.iload_n 3, 1) := by decide +kernel
theorem dC_isSoundStatement_81 : decode b_C_isSoundStatement 81 = .ok (.invokevirtual 150, 3) := by decide +kernel
theorem dC_isSoundStatement_84 : decode b_C_isSoundStatement 84 = .ok (.ifCond .eq 7, 3) := by decide +kernel
theorem dC_isSoundStatement_87 : decode b_C_isSoundStatement 87 = .ok (.iconst 1, 1) := by decide +kernel
theorem dC_isSoundStatement_88 : decode b_C_isSoundStatement 88 = .ok (.goto 4, 3) := by decide +kernel
theorem dC_isSoundStatement_91 : decode b_C_isSoundStatement 91 = .ok (.iconst 0, 1) := by decide +kernel
theorem dC_isSoundStatement_92 : decode b_C_isSoundStatement 92 = .ok (.ireturn, 1) := by decide +kernel
theorem dC_isSoundStatement_93 : decode b_C_isSoundStatement 93 = .ok (.aload_n 0, 1) := by decide +kernel
theorem dC_isSoundStatement_94 : decode b_C_isSoundStatement 94 = .ok (.getfield 10, 3) := by decide +kernel
theorem dC_isSoundStatement_97 : decode b_C_isSoundStatement 97 = .ok (.getfield 40, 3) := by decide +kernel
theorem dC_isSoundStatement_100 : decode b_C_isSoundStatement 100 = .ok (.iload_n 3, 1) := by decide +kernel
theorem dC_isSoundStatement_101 : decode b_C_isSoundStatement 101 = .ok (.invokevirtual 150, 3) := by decide +kernel
theorem dC_isSoundStatement_104 : decode b_C_isSoundStatement 104 = .ok (.ireturn, 1) := by decide +kernel
theorem dC_isSoundStatement_105 : decode b_C_isSoundStatement 105 = .ok (.iload_n 3, 1) := by decide +kernel
theorem dC_isSoundStatement_106 : decode b_C_isSoundStatement 106 = .ok (.iconst 1, 1) := by decide +kernel
theorem dC_isSoundStatement_107 : decode b_C_isSoundStatement 107 = .ok (.if_icmp .lt 12, 3) := by decide +kernel
theorem dC_isSoundStatement_110 : decode b_C_isSoundStatement 110 = .ok (.iload_n 3, 1) := by decide +kernel
theorem dC_isSoundStatement_111 : decode b_C_isSoundStatement 111 = .ok (.iconst 5, 1) := by decide +kernel
theorem dC_isSoundStatement_112 : decode b_C_isSoundStatement 112 = .ok (.if_icmp .gt 7, 3) := by decide +kernel
theorem dC_isSoundStatement_115 : decode b_C_isSoundStatement 115 = .ok (.iconst 1, 1) := by decide +kernel
theorem dC_isSoundStatement_116 : decode b_C_isSoundStatement 116 = .ok (.goto 4, 3) := by decide +kernel
theorem dC_isSoundStatement_119 : decode b_C_isSoundStatement 119 = .ok (.iconst 0, 1) := by decide +kernel
theorem dC_isSoundStatement_120 : decode b_C_isSoundStatement 120 = .ok (.ireturn, 1) := by decide +kernel
theorem dC_isSoundStatement_121 : decode b_C_isSoundStatement 121 = .ok (.iload_n 1, 1) := by decide +kernel
theorem dC_isSoundStatement_122 : decode b_C_isSoundStatement 122 = .ok (.iconst 3, 1) := by decide +kernel
theorem dC_isSoundStatement_123 : decode b_C_isSoundStatement 123 = .ok (.if_icmp .eq 8, 3) := by decide +kernel
theorem dC_isSoundStatement_126 : decode b_C_isSoundStatement 126 = .ok (.iload_n 1, 1) := by decide +kernel
theorem dC_isSoundStatement_127 : decode b_C_isSoundStatement 127 = .ok (.iconst 5, 1) := by decide +kernel
theorem dC_isSoundStatement_128 : decode b_C_isSoundStatement 128 = .ok (.if_icmp .ne 7, 3) := by decide +kernel
theorem dC_isSoundStatement_131 : decode b_C_isSoundStatement 131 = .ok (.iconst 1, 1) := by decide +kernel
theorem dC_isSoundStatement_132 : decode b_C_isSoundStatement 132 = .ok (.goto 4, 3) := by decide +kernel
theorem dC_isSoundStatement_135 : decode b_C_isSoundStatement 135 = .ok (.iconst 0, 1) := by decide +kernel
theorem dC_isSoundStatement_136 : decode b_C_isSoundStatement 136 = .ok (.ireturn, 1) := by decide +kernel
theorem dC_order_0 : decode b_C_order 0 = .ok (.aload_n 0, 1) := by decide +kernel
theorem dC_order_1 : decode b_C_order 1 = .ok (.iload_n 1, 1) := by decide +kernel
theorem dC_order_2 : decode b_C_order 2 = .ok (.invokevirtual 98, 3) := by decide +kernel
theorem dC_order_5 : decode b_C_order 5 = .ok (.ifCond .eq 12, 3) := by decide +kernel
theorem dC_order_8 : decode b_C_order 8 = .ok (.aload_n 0, 1) := by decide +kernel
theorem dC_order_9 : decode b_C_order 9 = .ok (.getfield 33, 3) := by decide +kernel
theorem dC_order_12 : decode b_C_order 12 = .ok (.iload_n 1, 1) := by decide +kernel
theorem dC_order_13 : decode b_C_order 13 = .ok (.iaload, 1) := by decide +kernel
theorem dC_order_14 : decode b_C_order 14 = .ok (.goto 4, 3) := by decide +kernel
theorem dC_order_17 : decode b_C_order 17 = .ok (.iconst (-1), 1) := by decide +kernel
theorem dC_order_18 : decode b_C_order 18 = .ok (.ireturn, 1) := by decide +kernel
theorem dC_run_0 : decode b_C_run 0 = .ok (.aload_n 0, 1) := by decide +kernel
theorem dC_run_1 : decode b_C_run 1 = .ok (.iload_n 1, 1) := by decide +kernel
theorem dC_run_2 : decode b_C_run 2 = .ok (.invokevirtual 98, 3) := by decide +kernel
theorem dC_run_5 : decode b_C_run 5 = .ok (.ifCond .ne 7, 3) := by decide +kernel
theorem dC_run_8 : decode b_C_run 8 = .ok (.ldc2_w 105, 3) := by decide +kernel
theorem dC_run_11 : decode b_C_run 11 = .ok (.lreturn, 1) := by decide +kernel
theorem dC_run_12 : decode b_C_run 12 = .ok (.aload_n 0, 1) := by decide +kernel
theorem dC_run_13 : decode b_C_run 13 = .ok (.getfield 10, 3) := by decide +kernel
theorem dC_run_16 : decode b_C_run 16 = .ok (.aload_n 0, 1) := by decide +kernel
theorem dC_run_17 : decode b_C_run 17 = .ok (.getfield 23, 3) := by decide +kernel
theorem dC_run_20 : decode b_C_run 20 = .ok (.iload_n 1, 1) := by decide +kernel
theorem dC_run_21 : decode b_C_run 21 = .ok (.iaload, 1) := by decide +kernel
theorem dC_run_22 : decode b_C_run 22 = .ok (.lload_n 2, 1) := by decide +kernel
theorem dC_run_23 : decode b_C_run 23 = .ok (.lload 4, 2) := by decide +kernel
theorem dC_run_25 : decode b_C_run 25 = .ok (.invokevirtual 107, 3) := by decide +kernel
theorem dC_run_28 : decode b_C_run 28 = .ok (.istore 6, 2) := by decide +kernel
theorem dC_run_30 : decode b_C_run 30 = .ok (.aload_n 0, 1) := by decide +kernel
theorem dC_run_31 : decode b_C_run 31 = .ok (.getfield 30, 3) := by decide +kernel
theorem dC_run_34 : decode b_C_run 34 = .ok (.iload_n 1, 1) := by decide +kernel
theorem dC_run_35 : decode b_C_run 35 = .ok (.iaload, 1) := by decide +kernel
theorem dC_run_36 : decode b_C_run 36 = .ok (.istore 7, 2) := by decide +kernel
theorem dC_run_38 : decode b_C_run 38 = .ok (.aload_n 0, 1) := by decide +kernel
theorem dC_run_39 : decode b_C_run 39 = .ok (.getfield 33, 3) := by decide +kernel
theorem dC_run_42 : decode b_C_run 42 = .ok (.iload_n 1, 1) := by decide +kernel
theorem dC_run_43 : decode b_C_run 43 = .ok (.iaload, 1) := by decide +kernel
theorem dC_run_44 : decode b_C_run 44 = .ok (.lookupswitch 57 #[(0, 28), (1, 42)], 28) := by decide +kernel
theorem dC_run_72 : decode b_C_run 72 = .ok (.aload_n 0, 1) := by decide +kernel
theorem dC_run_73 : decode b_C_run 73 = .ok (.getfield 10, 3) := by decide +kernel
theorem dC_run_76 : decode b_C_run 76 = .ok (.getfield 111, 3) := by decide +kernel
theorem dC_run_79 : decode b_C_run 79 = .ok (.getfield 115, 3) := by decide +kernel
theorem dC_run_82 : decode b_C_run 82 = .ok (.iload 6, 2) := by decide +kernel
theorem dC_run_84 : decode b_C_run 84 = .ok (.laload, 1) := by decide +kernel
theorem dC_run_85 : decode b_C_run 85 = .ok (.lreturn, 1) := by decide +kernel
theorem dC_run_86 : decode b_C_run 86 = .ok (.aload_n 0, 1) := by decide +kernel
theorem dC_run_87 : decode b_C_run 87 = .ok (.getfield 10, 3) := by decide +kernel
theorem dC_run_90 : decode b_C_run 90 = .ok (.getfield 111, 3) := by decide +kernel
theorem dC_run_93 : decode b_C_run 93 = .ok (.iload 6, 2) := by decide +kernel
theorem dC_run_95 : decode b_C_run 95 = .ok (.iload 7, 2) := by decide +kernel
theorem dC_run_97 : decode b_C_run 97 = .ok (.invokevirtual 121, 3) := by decide +kernel
theorem dC_run_100 : decode b_C_run 100 = .ok (.lreturn, 1) := by decide +kernel
theorem dC_run_101 : decode b_C_run 101 = .ok (.aload_n 0, 1) := by decide +kernel
theorem dC_run_102 : decode b_C_run 102 = .ok (.getfield 10, 3) := by decide +kernel
theorem dC_run_105 : decode b_C_run 105 = .ok (.getfield 111, 3) := by decide +kernel
theorem dC_run_108 : decode b_C_run 108 = .ok (.iload 6, 2) := by decide +kernel
theorem dC_run_110 : decode b_C_run 110 = .ok (.aload_n 0, 1) := by decide +kernel
theorem dC_run_111 : decode b_C_run 111 = .ok (.getfield 30, 3) := by decide +kernel
theorem dC_run_114 : decode b_C_run 114 = .ok (.aload_n 0, 1) := by decide +kernel
theorem dC_run_115 : decode b_C_run 115 = .ok (.getfield 27, 3) := by decide +kernel
theorem dC_run_118 : decode b_C_run 118 = .ok (.iload_n 1, 1) := by decide +kernel
theorem dC_run_119 : decode b_C_run 119 = .ok (.iaload, 1) := by decide +kernel
theorem dC_run_120 : decode b_C_run 120 = .ok (.iaload, 1) := by decide +kernel
theorem dC_run_121 : decode b_C_run 121 = .ok (.iload 7, 2) := by decide +kernel
theorem dC_run_123 : decode b_C_run 123 = .ok (.invokevirtual 125, 3) := by decide +kernel
theorem dC_run_126 : decode b_C_run 126 = .ok (.lreturn, 1) := by decide +kernel
theorem dC_statement_0 : decode b_C_statement 0 = .ok (.aload_n 0, 1) := by decide +kernel
theorem dC_statement_1 : decode b_C_statement 1 = .ok (.iload_n 1, 1) := by decide +kernel
theorem dC_statement_2 : decode b_C_statement 2 = .ok (.invokevirtual 73, 3) := by decide +kernel
theorem dC_statement_5 : decode b_C_statement 5 = .ok (.ifCond .eq 14, 3) := by decide +kernel
theorem dC_statement_8 : decode b_C_statement 8 = .ok (.aload_n 0, 1) := by decide +kernel
theorem dC_statement_9 : decode b_C_statement 9 = .ok (.iload_n 2, 1) := by decide +kernel
theorem dC_statement_10 : decode b_C_statement 10 = .ok (.iload_n 3, 1) := by decide +kernel
theorem dC_statement_11 : decode b_C_statement 11 = .ok (.iload 4, 2) := by decide +kernel
theorem dC_statement_13 : decode b_C_statement 13 = .ok (.invokevirtual 77, 3) := by decide +kernel
theorem dC_statement_16 : decode b_C_statement 16 = .ok (.ifCond .ne 5, 3) := by decide +kernel
theorem dC_statement_19 : decode b_C_statement 19 = .ok (.iconst (-1), 1) := by decide +kernel
theorem dC_statement_20 : decode b_C_statement 20 = .ok (.ireturn, 1) := by decide +kernel
theorem dC_statement_21 : decode b_C_statement 21 = .ok (.aload_n 0, 1) := by decide +kernel
theorem dC_statement_22 : decode b_C_statement 22 = .ok (.getfield 10, 3) := by decide +kernel
theorem dC_statement_25 : decode b_C_statement 25 = .ok (.getfield 62, 3) := by decide +kernel
theorem dC_statement_28 : decode b_C_statement 28 = .ok (.iload_n 1, 1) := by decide +kernel
theorem dC_statement_29 : decode b_C_statement 29 = .ok (.aaload, 1) := by decide +kernel
theorem dC_statement_30 : decode b_C_statement 30 = .ok (.astore 5, 2) := by decide +kernel
theorem dC_statement_32 : decode b_C_statement 32 = .ok (.aload 5, 2) := by decide +kernel
theorem dC_statement_34 : decode b_C_statement 34 = .ok (.ifnull 20, 3) := by decide +kernel
theorem dC_statement_37 : decode b_C_statement 37 = .ok (.aload 5, 2) := by decide +kernel
theorem dC_statement_39 : decode b_C_statement 39 = .ok (.invokevirtual 81, 3) := by decide +kernel
theorem dC_statement_42 : decode b_C_statement 42 = .ok (.ifCond .ne 12, 3) := by decide +kernel
theorem dC_statement_45 : decode b_C_statement 45 = .ok (.aload 5, 2) := by decide +kernel
theorem dC_statement_47 : decode b_C_statement 47 = .ok (.iload_n 2, 1) := by decide +kernel
theorem dC_statement_48 : decode b_C_statement 48 = .ok (.invokevirtual 82, 3) := by decide +kernel
theorem dC_statement_51 : decode b_C_statement 51 = .ok (.ifCond .ne 5, 3) := by decide +kernel
theorem dC_statement_54 : decode b_C_statement 54 = .ok (.iconst (-1), 1) := by decide +kernel
theorem dC_statement_55 : decode b_C_statement 55 = .ok (.ireturn, 1) := by decide +kernel
theorem dC_statement_56 : decode b_C_statement 56 = .ok (.aload_n 0, 1) := by decide +kernel
theorem dC_statement_57 : decode b_C_statement 57 = .ok (.iload_n 1, 1) := by decide +kernel
theorem dC_statement_58 : decode b_C_statement 58 = .ok (.iload_n 2, 1) := by decide +kernel
theorem dC_statement_59 : decode b_C_statement 59 = .ok (.iload 4, 2) := by decide +kernel
theorem dC_statement_61 : decode b_C_statement 61 = .ok (.aload 5, 2) := by decide +kernel
theorem dC_statement_63 : decode b_C_statement 63 = .ok (.invokevirtual 85, 3) := by decide +kernel
theorem dC_statement_66 : decode b_C_statement 66 = .ok (.invokevirtual 89, 3) := by decide +kernel
theorem dC_statement_69 : decode b_C_statement 69 = .ok (.ifCond .ne 5, 3) := by decide +kernel
theorem dC_statement_72 : decode b_C_statement 72 = .ok (.iconst (-1), 1) := by decide +kernel
theorem dC_statement_73 : decode b_C_statement 73 = .ok (.ireturn, 1) := by decide +kernel
theorem dC_statement_74 : decode b_C_statement 74 = .ok (.aload 5, 2) := by decide +kernel
theorem dC_statement_76 : decode b_C_statement 76 = .ok (.iload_n 2, 1) := by decide +kernel
theorem dC_statement_77 : decode b_C_statement 77 = .ok (.iload_n 3, 1) := by decide +kernel
theorem dC_statement_78 : decode b_C_statement 78 = .ok (.iload 4, 2) := by decide +kernel
theorem dC_statement_80 : decode b_C_statement 80 = .ok (.invokevirtual 92, 3) := by decide +kernel
theorem dC_statement_83 : decode b_C_statement 83 = .ok (.aload 5, 2) := by decide +kernel
theorem dC_statement_85 : decode b_C_statement 85 = .ok (.getfield 95, 3) := by decide +kernel
theorem dC_statement_88 : decode b_C_statement 88 = .ok (.ireturn, 1) := by decide +kernel
theorem dE_add_0 : decode b_E_add 0 = .ok (.aload_n 0, 1) := by decide +kernel
theorem dE_add_1 : decode b_E_add 1 = .ok (.getfield 24, 3) := by decide +kernel
theorem dE_add_4 : decode b_E_add 4 = .ok (.istore 5, 2) := by decide +kernel
theorem dE_add_6 : decode b_E_add 6 = .ok (.aload_n 0, 1) := by decide +kernel
theorem dE_add_7 : decode b_E_add 7 = .ok (.getfield 9, 3) := by decide +kernel
theorem dE_add_10 : decode b_E_add 10 = .ok (.iload 5, 2) := by decide +kernel
theorem dE_add_12 : decode b_E_add 12 = .ok (.iload_n 1, 1) := by decide +kernel
theorem dE_add_13 : decode b_E_add 13 = .ok (.iastore, 1) := by decide +kernel
theorem dE_add_14 : decode b_E_add 14 = .ok (.aload_n 0, 1) := by decide +kernel
theorem dE_add_15 : decode b_E_add 15 = .ok (.getfield 15, 3) := by decide +kernel
theorem dE_add_18 : decode b_E_add 18 = .ok (.iload 5, 2) := by decide +kernel
theorem dE_add_20 : decode b_E_add 20 = .ok (.iload_n 2, 1) := by decide +kernel
theorem dE_add_21 : decode b_E_add 21 = .ok (.iastore, 1) := by decide +kernel
theorem dE_add_22 : decode b_E_add 22 = .ok (.aload_n 0, 1) := by decide +kernel
theorem dE_add_23 : decode b_E_add 23 = .ok (.getfield 18, 3) := by decide +kernel
theorem dE_add_26 : decode b_E_add 26 = .ok (.iload 5, 2) := by decide +kernel
theorem dE_add_28 : decode b_E_add 28 = .ok (.iload_n 3, 1) := by decide +kernel
theorem dE_add_29 : decode b_E_add 29 = .ok (.iastore, 1) := by decide +kernel
theorem dE_add_30 : decode b_E_add 30 = .ok (.aload_n 0, 1) := by decide +kernel
theorem dE_add_31 : decode b_E_add 31 = .ok (.getfield 21, 3) := by decide +kernel
theorem dE_add_34 : decode b_E_add 34 = .ok (.iload 5, 2) := by decide +kernel
theorem dE_add_36 : decode b_E_add 36 = .ok (.iload 4, 2) := by decide +kernel
theorem dE_add_38 : decode b_E_add 38 = .ok (.iastore, 1) := by decide +kernel
theorem dE_add_39 : decode b_E_add 39 = .ok (.aload_n 0, 1) := by decide +kernel
theorem dE_add_40 : decode b_E_add 40 = .ok (.dup, 1) := by decide +kernel
theorem dE_add_41 : decode b_E_add 41 = .ok (.getfield 24, 3) := by decide +kernel
theorem dE_add_44 : decode b_E_add 44 = .ok (.iconst 1, 1) := by decide +kernel
theorem dE_add_45 : decode b_E_add 45 = .ok (.iadd, 1) := by decide +kernel
theorem dE_add_46 : decode b_E_add 46 = .ok (.putfield 24, 3) := by decide +kernel
theorem dE_add_49 : decode b_E_add 49 = .ok (.iload 5, 2) := by decide +kernel
theorem dE_add_51 : decode b_E_add 51 = .ok (.ireturn, 1) := by decide +kernel
theorem dE_has_0 : decode b_E_has 0 = .ok (.iload_n 1, 1) := by decide +kernel
theorem dE_has_1 : decode b_E_has 1 = .ok (.aload_n 0, 1) := by decide +kernel
theorem dE_has_2 : decode b_E_has 2 = .ok (.getfield 24, 3) := by decide +kernel
theorem dE_has_5 : decode b_E_has 5 = .ok (.invokestatic 28, 3) := by decide +kernel
theorem dE_has_8 : decode b_E_has 8 = .ok (.ireturn, 1) := by decide +kernel
theorem dE_hasLeft_0 : decode b_E_hasLeft 0 = .ok (.iload_n 0, 1) := by decide +kernel
theorem dE_hasLeft_1 : decode b_E_hasLeft 1 = .ok (.iconst 2, 1) := by decide +kernel
theorem dE_hasLeft_2 : decode b_E_hasLeft 2 = .ok (.if_icmp .lt 13, 3) := by decide +kernel
theorem dE_hasLeft_5 : decode b_E_hasLeft 5 = .ok (.iload_n 0, 1) := by decide +kernel
theorem dE_hasLeft_6 : decode b_E_hasLeft 6 = .ok (.bipush 11, 2) := by decide +kernel
theorem dE_hasLeft_8 : decode b_E_hasLeft 8 = .ok (.if_icmp .gt 7, 3) := by decide +kernel
theorem dE_hasLeft_11 : decode b_E_hasLeft 11 = .ok (.iconst 1, 1) := by decide +kernel
theorem dE_hasLeft_12 : decode b_E_hasLeft 12 = .ok (.goto 4, 3) := by decide +kernel
theorem dE_hasLeft_15 : decode b_E_hasLeft 15 = .ok (.iconst 0, 1) := by decide +kernel
theorem dE_hasLeft_16 : decode b_E_hasLeft 16 = .ok (.ireturn, 1) := by decide +kernel
theorem dE_hasRight_0 : decode b_E_hasRight 0 = .ok (.iload_n 0, 1) := by decide +kernel
theorem dE_hasRight_1 : decode b_E_hasRight 1 = .ok (.tableswitch 57 2 11 #[55, 55, 55, 57, 57, 57, 55, 55, 57, 55], 55) := by decide +kernel
theorem dE_hasRight_56 : decode b_E_hasRight 56 = .ok (.iconst 1, 1) := by decide +kernel
theorem dE_hasRight_57 : decode b_E_hasRight 57 = .ok (.ireturn, 1) := by decide +kernel
theorem dE_hasRight_58 : decode b_E_hasRight 58 = .ok (.iconst 0, 1) := by decide +kernel
theorem dE_hasRight_59 : decode b_E_hasRight 59 = .ok (.ireturn, 1) := by decide +kernel
theorem dE_init_0 : decode b_E_init 0 = .ok (.aload_n 0, 1) := by decide +kernel
theorem dE_init_1 : decode b_E_init 1 = .ok (.invokespecial 3, 3) := by decide +kernel
theorem dE_init_4 : decode b_E_init 4 = .ok (.aload_n 0, 1) := by decide +kernel
theorem dE_init_5 : decode b_E_init 5 = .ok (.bipush 80, 2) := by decide +kernel
theorem dE_init_7 : decode b_E_init 7 = .ok (.newarray .int, 2) := by decide +kernel
theorem dE_init_9 : decode b_E_init 9 = .ok (.putfield 9, 3) := by decide +kernel
theorem dE_init_12 : decode b_E_init 12 = .ok (.aload_n 0, 1) := by decide +kernel
theorem dE_init_13 : decode b_E_init 13 = .ok (.bipush 80, 2) := by decide +kernel
theorem dE_init_15 : decode b_E_init 15 = .ok (.newarray .int, 2) := by decide +kernel
theorem dE_init_17 : decode b_E_init 17 = .ok (.putfield 15, 3) := by decide +kernel
theorem dE_init_20 : decode b_E_init 20 = .ok (.aload_n 0, 1) := by decide +kernel
theorem dE_init_21 : decode b_E_init 21 = .ok (.bipush 80, 2) := by decide +kernel
theorem dE_init_23 : decode b_E_init 23 = .ok (.newarray .int, 2) := by decide +kernel
theorem dE_init_25 : decode b_E_init 25 = .ok (.putfield 18, 3) := by decide +kernel
theorem dE_init_28 : decode b_E_init 28 = .ok (.aload_n 0, 1) := by decide +kernel
theorem dE_init_29 : decode b_E_init 29 = .ok (.bipush 80, 2) := by decide +kernel
theorem dE_init_31 : decode b_E_init 31 = .ok (.newarray .int, 2) := by decide +kernel
theorem dE_init_33 : decode b_E_init 33 = .ok (.putfield 21, 3) := by decide +kernel
theorem dE_init_36 : decode b_E_init 36 = .ok (.return_, 1) := by decide +kernel
theorem dE_isFull_0 : decode b_E_isFull 0 = .ok (.aload_n 0, 1) := by decide +kernel
theorem dE_isFull_1 : decode b_E_isFull 1 = .ok (.getfield 24, 3) := by decide +kernel
theorem dE_isFull_4 : decode b_E_isFull 4 = .ok (.bipush 80, 2) := by decide +kernel
theorem dE_isFull_6 : decode b_E_isFull 6 = .ok (.if_icmp .lt 7, 3) := by decide +kernel
theorem dE_isFull_9 : decode b_E_isFull 9 = .ok (.iconst 1, 1) := by decide +kernel
theorem dE_isFull_10 : decode b_E_isFull 10 = .ok (.goto 4, 3) := by decide +kernel
theorem dE_isFull_13 : decode b_E_isFull 13 = .ok (.iconst 0, 1) := by decide +kernel
theorem dE_isFull_14 : decode b_E_isFull 14 = .ok (.ireturn, 1) := by decide +kernel
theorem dK_addExpression_0 : decode b_K_addExpression 0 = .ok (.iload_n 2, 1) := by decide +kernel
theorem dK_addExpression_1 : decode b_K_addExpression 1 = .ok (.iload 4, 2) := by decide +kernel
theorem dK_addExpression_3 : decode b_K_addExpression 3 = .ok (.invokestatic 27, 3) := by decide +kernel
theorem dK_addExpression_6 : decode b_K_addExpression 6 = .ok (.istore 6, 2) := by decide +kernel
theorem dK_addExpression_8 : decode b_K_addExpression 8 = .ok (.iload_n 2, 1) := by decide +kernel
theorem dK_addExpression_9 : decode b_K_addExpression 9 = .ok (.invokestatic 31, 3) := by decide +kernel
theorem dK_addExpression_12 : decode b_K_addExpression 12 = .ok (.istore 7, 2) := by decide +kernel
theorem dK_addExpression_14 : decode b_K_addExpression 14 = .ok (.iload_n 2, 1) := by decide +kernel
theorem dK_addExpression_15 : decode b_K_addExpression 15 = .ok (.invokestatic 37, 3) := by decide +kernel
theorem dK_addExpression_18 : decode b_K_addExpression 18 = .ok (.istore 8, 2) := by decide +kernel
theorem dK_addExpression_20 : decode b_K_addExpression 20 = .ok (.iload 7, 2) := by decide +kernel
theorem dK_addExpression_22 : decode b_K_addExpression 22 = .ok (.ifCond .eq 12, 3) := by decide +kernel
theorem dK_addExpression_25 : decode b_K_addExpression 25 = .ok (.aload_n 0, 1) := by decide +kernel
theorem dK_addExpression_26 : decode b_K_addExpression 26 = .ok (.getfield 9, 3) := by decide +kernel
theorem dK_addExpression_29 : decode b_K_addExpression 29 = .ok (.iload_n 3, 1) := by decide +kernel
theorem dK_addExpression_30 : decode b_K_addExpression 30 = .ok (.iaload, 1) := by decide +kernel
theorem dK_addExpression_31 : decode b_K_addExpression 31 = .ok (.goto 4, 3) := by decide +kernel
theorem dK_addExpression_34 : decode b_K_addExpression 34 = .ok (.iconst 0, 1) := by decide +kernel
theorem dK_addExpression_35 : decode b_K_addExpression 35 = .ok (.iload 8, 2) := by decide +kernel
theorem dK_addExpression_37 : decode b_K_addExpression 37 = .ok (.ifCond .eq 13, 3) := by decide +kernel
theorem dK_addExpression_40 : decode b_K_addExpression 40 = .ok (.aload_n 0, 1) := by decide +kernel
theorem dK_addExpression_41 : decode b_K_addExpression 41 = .ok (.getfield 9, 3) := by decide +kernel
theorem dK_addExpression_44 : decode b_K_addExpression 44 = .ok (.iload 4, 2) := by decide +kernel
theorem dK_addExpression_46 : decode b_K_addExpression 46 = .ok (.iaload, 1) := by decide +kernel
theorem dK_addExpression_47 : decode b_K_addExpression 47 = .ok (.goto 4, 3) := by decide +kernel
theorem dK_addExpression_50 : decode b_K_addExpression 50 = .ok (.iconst 0, 1) := by decide +kernel
theorem dK_addExpression_51 : decode b_K_addExpression 51 = .ok (.iadd, 1) := by decide +kernel
theorem dK_addExpression_52 : decode b_K_addExpression 52 = .ok (.istore 9, 2) := by decide +kernel
theorem dK_addExpression_54 : decode b_K_addExpression 54 = .ok (.aload_n 0, 1) := by decide +kernel
theorem dK_addExpression_55 : decode b_K_addExpression 55 = .ok (.getfield 9, 3) := by decide +kernel
theorem dK_addExpression_58 : decode b_K_addExpression 58 = .ok (.iload_n 1, 1) := by decide +kernel
theorem dK_addExpression_59 : decode b_K_addExpression 59 = .ok (.sipush 1000, 3) := by decide +kernel
theorem dK_addExpression_62 : decode b_K_addExpression 62 = .ok (.iconst 1, 1) := by decide +kernel
theorem dK_addExpression_63 : decode b_K_addExpression 63 = .ok (.iload 6, 2) := by decide +kernel
theorem dK_addExpression_65 : decode b_K_addExpression 65 = .ok (.iload 9, 2) := by decide +kernel
theorem dK_addExpression_67 : decode b_K_addExpression 67 = .ok (.imul, 1) := by decide +kernel
theorem dK_addExpression_68 : decode b_K_addExpression 68 = .ok (.iadd, 1) := by decide +kernel
theorem dK_addExpression_69 : decode b_K_addExpression 69 = .ok (.invokestatic 40, 3) := by decide +kernel
theorem dK_addExpression_72 : decode b_K_addExpression 72 = .ok (.iastore, 1) := by decide +kernel
theorem dK_addExpression_73 : decode b_K_addExpression 73 = .ok (.iconst 0, 1) := by decide +kernel
theorem dK_addExpression_74 : decode b_K_addExpression 74 = .ok (.istore 10, 2) := by decide +kernel
theorem dK_addExpression_76 : decode b_K_addExpression 76 = .ok (.iload 10, 2) := by decide +kernel
theorem dK_addExpression_78 : decode b_K_addExpression 78 = .ok (.bipush 8, 2) := by decide +kernel
theorem dK_addExpression_80 : decode b_K_addExpression 80 = .ok (.if_icmp .ge 101, 3) := by decide +kernel
theorem dK_addExpression_83 : decode b_K_addExpression 83 = .ok (.iload 7, 2) := by decide +kernel
theorem dK_addExpression_85 : decode b_K_addExpression 85 = .ok (.ifCond .eq 18, 3) := by decide +kernel
theorem dK_addExpression_88 : decode b_K_addExpression 88 = .ok (.aload_n 0, 1) := by decide +kernel
theorem dK_addExpression_89 : decode b_K_addExpression 89 = .ok (.getfield 15, 3) := by decide +kernel
theorem dK_addExpression_92 : decode b_K_addExpression 92 = .ok (.iload_n 3, 1) := by decide +kernel
theorem dK_addExpression_93 : decode b_K_addExpression 93 = .ok (.bipush 8, 2) := by decide +kernel
theorem dK_addExpression_95 : decode b_K_addExpression 95 = .ok (.imul, 1) := by decide +kernel
theorem dK_addExpression_96 : decode b_K_addExpression 96 = .ok (.iload 10, 2) := by decide +kernel
theorem dK_addExpression_98 : decode b_K_addExpression 98 = .ok (.iadd, 1) := by decide +kernel
theorem dK_addExpression_99 : decode b_K_addExpression 99 = .ok (.iaload, 1) := by decide +kernel
theorem dK_addExpression_100 : decode b_K_addExpression 100 = .ok (.goto 4, 3) := by decide +kernel
theorem dK_addExpression_103 : decode b_K_addExpression 103 = .ok (.iconst 0, 1) := by decide +kernel
theorem dK_addExpression_104 : decode b_K_addExpression 104 = .ok (.iload 8, 2) := by decide +kernel
theorem dK_addExpression_106 : decode b_K_addExpression 106 = .ok (.ifCond .eq 19, 3) := by decide +kernel
theorem dK_addExpression_109 : decode b_K_addExpression 109 = .ok (.aload_n 0, 1) := by decide +kernel
theorem dK_addExpression_110 : decode b_K_addExpression 110 = .ok (.getfield 15, 3) := by decide +kernel
theorem dK_addExpression_113 : decode b_K_addExpression 113 = .ok (.iload 4, 2) := by decide +kernel
theorem dK_addExpression_115 : decode b_K_addExpression 115 = .ok (.bipush 8, 2) := by decide +kernel
theorem dK_addExpression_117 : decode b_K_addExpression 117 = .ok (.imul, 1) := by decide +kernel
theorem dK_addExpression_118 : decode b_K_addExpression 118 = .ok (.iload 10, 2) := by decide +kernel
theorem dK_addExpression_120 : decode b_K_addExpression 120 = .ok (.iadd, 1) := by decide +kernel
theorem dK_addExpression_121 : decode b_K_addExpression 121 = .ok (.iaload, 1) := by decide +kernel
theorem dK_addExpression_122 : decode b_K_addExpression 122 = .ok (.goto 4, 3) := by decide +kernel
theorem dK_addExpression_125 : decode b_K_addExpression 125 = .ok (.iconst 0, 1) := by decide +kernel
theorem dK_addExpression_126 : decode b_K_addExpression 126 = .ok (.iadd, 1) := by decide +kernel
theorem dK_addExpression_127 : decode b_K_addExpression 127 = .ok (.istore 11, 2) := by decide +kernel
theorem dK_addExpression_129 : decode b_K_addExpression 129 = .ok (.iload_n 2, 1) := by decide +kernel
theorem dK_addExpression_130 : decode b_K_addExpression 130 = .ok (.bipush 11, 2) := by decide +kernel
theorem dK_addExpression_132 : decode b_K_addExpression 132 = .ok (.if_icmp .ne 14, 3) := by decide +kernel
theorem dK_addExpression_135 : decode b_K_addExpression 135 = .ok (.iload 10, 2) := by decide +kernel
theorem dK_addExpression_137 : decode b_K_addExpression 137 = .ok (.iload 5, 2) := by decide +kernel
theorem dK_addExpression_139 : decode b_K_addExpression 139 = .ok (.if_icmp .ne 7, 3) := by decide +kernel
theorem dK_addExpression_142 : decode b_K_addExpression 142 = .ok (.iconst 1, 1) := by decide +kernel
theorem dK_addExpression_143 : decode b_K_addExpression 143 = .ok (.goto 4, 3) := by decide +kernel
theorem dK_addExpression_146 : decode b_K_addExpression 146 = .ok (.iconst 0, 1) := by decide +kernel
theorem dK_addExpression_147 : decode b_K_addExpression 147 = .ok (.istore 12, 2) := by decide +kernel
theorem dK_addExpression_149 : decode b_K_addExpression 149 = .ok (.aload_n 0, 1) := by decide +kernel
theorem dK_addExpression_150 : decode b_K_addExpression 150 = .ok (.getfield 15, 3) := by decide +kernel
theorem dK_addExpression_153 : decode b_K_addExpression 153 = .ok (.iload_n 1, 1) := by decide +kernel
theorem dK_addExpression_154 : decode b_K_addExpression 154 = .ok (.bipush 8, 2) := by decide +kernel
theorem dK_addExpression_156 : decode b_K_addExpression 156 = .ok (.imul, 1) := by decide +kernel
theorem dK_addExpression_157 : decode b_K_addExpression 157 = .ok (.iload 10, 2) := by decide +kernel
theorem dK_addExpression_159 : decode b_K_addExpression 159 = .ok (.iadd, 1) := by decide +kernel
theorem dK_addExpression_160 : decode b_K_addExpression 160 = .ok (.sipush 1000, 3) := by decide +kernel
theorem dK_addExpression_163 : decode b_K_addExpression 163 = .ok (.iload 6, 2) := by decide +kernel
theorem dK_addExpression_165 : decode b_K_addExpression 165 = .ok (.iload 11, 2) := by decide +kernel
theorem dK_addExpression_167 : decode b_K_addExpression 167 = .ok (.imul, 1) := by decide +kernel
theorem dK_addExpression_168 : decode b_K_addExpression 168 = .ok (.iload 12, 2) := by decide +kernel
theorem dK_addExpression_170 : decode b_K_addExpression 170 = .ok (.iadd, 1) := by decide +kernel
theorem dK_addExpression_171 : decode b_K_addExpression 171 = .ok (.invokestatic 40, 3) := by decide +kernel
theorem dK_addExpression_174 : decode b_K_addExpression 174 = .ok (.iastore, 1) := by decide +kernel
theorem dK_addExpression_175 : decode b_K_addExpression 175 = .ok (.iinc 10 1, 3) := by decide +kernel
theorem dK_addExpression_178 : decode b_K_addExpression 178 = .ok (.goto (-102), 3) := by decide +kernel
theorem dK_addExpression_181 : decode b_K_addExpression 181 = .ok (.return_, 1) := by decide +kernel
theorem dK_addFunction_0 : decode b_K_addFunction 0 = .ok (.aload_n 0, 1) := by decide +kernel
theorem dK_addFunction_1 : decode b_K_addFunction 1 = .ok (.getfield 18, 3) := by decide +kernel
theorem dK_addFunction_4 : decode b_K_addFunction 4 = .ok (.iload_n 1, 1) := by decide +kernel
theorem dK_addFunction_5 : decode b_K_addFunction 5 = .ok (.bipush 8, 2) := by decide +kernel
theorem dK_addFunction_7 : decode b_K_addFunction 7 = .ok (.imul, 1) := by decide +kernel
theorem dK_addFunction_8 : decode b_K_addFunction 8 = .ok (.iload_n 1, 1) := by decide +kernel
theorem dK_addFunction_9 : decode b_K_addFunction 9 = .ok (.iadd, 1) := by decide +kernel
theorem dK_addFunction_10 : decode b_K_addFunction 10 = .ok (.iconst 1, 1) := by decide +kernel
theorem dK_addFunction_11 : decode b_K_addFunction 11 = .ok (.iastore, 1) := by decide +kernel
theorem dK_addFunction_12 : decode b_K_addFunction 12 = .ok (.aload_n 0, 1) := by decide +kernel
theorem dK_addFunction_13 : decode b_K_addFunction 13 = .ok (.getfield 21, 3) := by decide +kernel
theorem dK_addFunction_16 : decode b_K_addFunction 16 = .ok (.iload_n 1, 1) := by decide +kernel
theorem dK_addFunction_17 : decode b_K_addFunction 17 = .ok (.iconst 1, 1) := by decide +kernel
theorem dK_addFunction_18 : decode b_K_addFunction 18 = .ok (.iastore, 1) := by decide +kernel
theorem dK_addFunction_19 : decode b_K_addFunction 19 = .ok (.return_, 1) := by decide +kernel
theorem dK_charge_0 : decode b_K_charge 0 = .ok (.iload_n 3, 1) := by decide +kernel
theorem dK_charge_1 : decode b_K_charge 1 = .ok (.i2l, 1) := by decide +kernel
theorem dK_charge_2 : decode b_K_charge 2 = .ok (.lstore 4, 2) := by decide +kernel
theorem dK_charge_4 : decode b_K_charge 4 = .ok (.aload_n 0, 1) := by decide +kernel
theorem dK_charge_5 : decode b_K_charge 5 = .ok (.getfield 24, 3) := by decide +kernel
theorem dK_charge_8 : decode b_K_charge 8 = .ok (.iconst 0, 1) := by decide +kernel
theorem dK_charge_9 : decode b_K_charge 9 = .ok (.invokestatic 48, 3) := by decide +kernel
theorem dK_charge_12 : decode b_K_charge 12 = .ok (.iload_n 2, 1) := by decide +kernel
theorem dK_charge_13 : decode b_K_charge 13 = .ok (.iconst (-1), 1) := by decide +kernel
theorem dK_charge_14 : decode b_K_charge 14 = .ok (.if_icmp .eq 23, 3) := by decide +kernel
theorem dK_charge_17 : decode b_K_charge 17 = .ok (.lload 4, 2) := by decide +kernel
theorem dK_charge_19 : decode b_K_charge 19 = .ok (.iload_n 3, 1) := by decide +kernel
theorem dK_charge_20 : decode b_K_charge 20 = .ok (.i2l, 1) := by decide +kernel
theorem dK_charge_21 : decode b_K_charge 21 = .ok (.aload_n 0, 1) := by decide +kernel
theorem dK_charge_22 : decode b_K_charge 22 = .ok (.iload_n 2, 1) := by decide +kernel
theorem dK_charge_23 : decode b_K_charge 23 = .ok (.invokevirtual 54, 3) := by decide +kernel
theorem dK_charge_26 : decode b_K_charge 26 = .ok (.i2l, 1) := by decide +kernel
theorem dK_charge_27 : decode b_K_charge 27 = .ok (.lmul, 1) := by decide +kernel
theorem dK_charge_28 : decode b_K_charge 28 = .ok (.ladd, 1) := by decide +kernel
theorem dK_charge_29 : decode b_K_charge 29 = .ok (.lstore 4, 2) := by decide +kernel
theorem dK_charge_31 : decode b_K_charge 31 = .ok (.aload_n 0, 1) := by decide +kernel
theorem dK_charge_32 : decode b_K_charge 32 = .ok (.iload_n 2, 1) := by decide +kernel
theorem dK_charge_33 : decode b_K_charge 33 = .ok (.iload_n 3, 1) := by decide +kernel
theorem dK_charge_34 : decode b_K_charge 34 = .ok (.invokevirtual 58, 3) := by decide +kernel
theorem dK_charge_37 : decode b_K_charge 37 = .ok (.aload_n 0, 1) := by decide +kernel
theorem dK_charge_38 : decode b_K_charge 38 = .ok (.getfield 24, 3) := by decide +kernel
theorem dK_charge_41 : decode b_K_charge 41 = .ok (.iload_n 1, 1) := by decide +kernel
theorem dK_charge_42 : decode b_K_charge 42 = .ok (.iaload, 1) := by decide +kernel
theorem dK_charge_43 : decode b_K_charge 43 = .ok (.ifCond .gt 13, 3) := by decide +kernel
theorem dK_charge_46 : decode b_K_charge 46 = .ok (.aload_n 0, 1) := by decide +kernel
theorem dK_charge_47 : decode b_K_charge 47 = .ok (.iload_n 1, 1) := by decide +kernel
theorem dK_charge_48 : decode b_K_charge 48 = .ok (.lload 4, 2) := by decide +kernel
theorem dK_charge_50 : decode b_K_charge 50 = .ok (.invokevirtual 62, 3) := by decide +kernel
theorem dK_charge_53 : decode b_K_charge 53 = .ok (.ifCond .eq 5, 3) := by decide +kernel
theorem dK_charge_56 : decode b_K_charge 56 = .ok (.iconst 0, 1) := by decide +kernel
theorem dK_charge_57 : decode b_K_charge 57 = .ok (.ireturn, 1) := by decide +kernel
theorem dK_charge_58 : decode b_K_charge 58 = .ok (.iconst 0, 1) := by decide +kernel
theorem dK_charge_59 : decode b_K_charge 59 = .ok (.istore 6, 2) := by decide +kernel
theorem dK_charge_61 : decode b_K_charge 61 = .ok (.iload 6, 2) := by decide +kernel
theorem dK_charge_63 : decode b_K_charge 63 = .ok (.bipush 8, 2) := by decide +kernel
theorem dK_charge_65 : decode b_K_charge 65 = .ok (.if_icmp .ge 82, 3) := by decide +kernel
theorem dK_charge_68 : decode b_K_charge 68 = .ok (.aload_n 0, 1) := by decide +kernel
theorem dK_charge_69 : decode b_K_charge 69 = .ok (.getfield 18, 3) := by decide +kernel
theorem dK_charge_72 : decode b_K_charge 72 = .ok (.iload 6, 2) := by decide +kernel
theorem dK_charge_74 : decode b_K_charge 74 = .ok (.bipush 8, 2) := by decide +kernel
theorem dK_charge_76 : decode b_K_charge 76 = .ok (.imul, 1) := by decide +kernel
theorem dK_charge_77 : decode b_K_charge 77 = .ok (.iload_n 1, 1) := by decide +kernel
theorem dK_charge_78 : decode b_K_charge 78 = .ok (.iadd, 1) := by decide +kernel
theorem dK_charge_79 : decode b_K_charge 79 = .ok (.iaload, 1) := by decide +kernel
theorem dK_charge_80 : decode b_K_charge 80 = .ok (.istore 7, 2) := by decide +kernel
theorem dK_charge_82 : decode b_K_charge 82 = .ok (.aload_n 0, 1) := by decide +kernel
theorem dK_charge_83 : decode b_K_charge 83 = .ok (.getfield 21, 3) := by decide +kernel
theorem dK_charge_86 : decode b_K_charge 86 = .ok (.iload 6, 2) := by decide +kernel
theorem dK_charge_88 : decode b_K_charge 88 = .ok (.dup2, 1) := by decide +kernel
theorem dK_charge_89 : decode b_K_charge 89 = .ok (.iaload, 1) := by decide +kernel
theorem dK_charge_90 : decode b_K_charge 90 = .ok (.iload 7, 2) := by decide +kernel
theorem dK_charge_92 : decode b_K_charge 92 = .ok (.i2l, 1) := by decide +kernel
theorem dK_charge_93 : decode b_K_charge 93 = .ok (.lload 4, 2) := by decide +kernel
theorem dK_charge_95 : decode b_K_charge 95 = .ok (.lmul, 1) := by decide +kernel
theorem dK_charge_96 : decode b_K_charge 96 = .ok (.l2i, 1) := by decide +kernel
theorem dK_charge_97 : decode b_K_charge 97 = .ok (.iadd, 1) := by decide +kernel
theorem dK_charge_98 : decode b_K_charge 98 = .ok (.iastore, 1) := by decide +kernel
theorem dK_charge_99 : decode b_K_charge 99 = .ok (.iconst 0, 1) := by decide +kernel
theorem dK_charge_100 : decode b_K_charge 100 = .ok (.istore 8, 2) := by decide +kernel
theorem dK_charge_102 : decode b_K_charge 102 = .ok (.iload 8, 2) := by decide +kernel
theorem dK_charge_104 : decode b_K_charge 104 = .ok (.bipush 8, 2) := by decide +kernel
theorem dK_charge_106 : decode b_K_charge 106 = .ok (.if_icmp .ge 35, 3) := by decide +kernel
theorem dK_charge_109 : decode b_K_charge 109 = .ok (.aload_n 0, 1) := by decide +kernel
theorem dK_charge_110 : decode b_K_charge 110 = .ok (.getfield 18, 3) := by decide +kernel
theorem dK_charge_113 : decode b_K_charge 113 = .ok (.iload 6, 2) := by decide +kernel
theorem dK_charge_115 : decode b_K_charge 115 = .ok (.bipush 8, 2) := by decide +kernel
theorem dK_charge_117 : decode b_K_charge 117 = .ok (.imul, 1) := by decide +kernel
theorem dK_charge_118 : decode b_K_charge 118 = .ok (.iload 8, 2) := by decide +kernel
theorem dK_charge_120 : decode b_K_charge 120 = .ok (.iadd, 1) := by decide +kernel
theorem dK_charge_121 : decode b_K_charge 121 = .ok (.dup2, 1) := by decide +kernel
theorem dK_charge_122 : decode b_K_charge 122 = .ok (.iaload, 1) := by decide +kernel
theorem dK_charge_123 : decode b_K_charge 123 = .ok (.iload 7, 2) := by decide +kernel
theorem dK_charge_125 : decode b_K_charge 125 = .ok (.aload_n 0, 1) := by decide +kernel
theorem dK_charge_126 : decode b_K_charge 126 = .ok (.getfield 24, 3) := by decide +kernel
theorem dK_charge_129 : decode b_K_charge 129 = .ok (.iload 8, 2) := by decide +kernel
theorem dK_charge_131 : decode b_K_charge 131 = .ok (.iaload, 1) := by decide +kernel
theorem dK_charge_132 : decode b_K_charge 132 = .ok (.imul, 1) := by decide +kernel
theorem dK_charge_133 : decode b_K_charge 133 = .ok (.iadd, 1) := by decide +kernel
theorem dK_charge_134 : decode b_K_charge 134 = .ok (.iastore, 1) := by decide +kernel
theorem dK_charge_135 : decode b_K_charge 135 = .ok (.iinc 8 1, 3) := by decide +kernel
theorem dK_charge_138 : decode b_K_charge 138 = .ok (.goto (-36), 3) := by decide +kernel
theorem dK_charge_141 : decode b_K_charge 141 = .ok (.iinc 6 1, 3) := by decide +kernel
theorem dK_charge_144 : decode b_K_charge 144 = .ok (.goto (-83), 3) := by decide +kernel
theorem dK_charge_147 : decode b_K_charge 147 = .ok (.iconst 1, 1) := by decide +kernel
theorem dK_charge_148 : decode b_K_charge 148 = .ok (.ireturn, 1) := by decide +kernel
theorem dK_costOf_0 : decode b_K_costOf 0 = .ok (.aload_n 0, 1) := by decide +kernel
theorem dK_costOf_1 : decode b_K_costOf 1 = .ok (.getfield 9, 3) := by decide +kernel
theorem dK_costOf_4 : decode b_K_costOf 4 = .ok (.iload_n 1, 1) := by decide +kernel
theorem dK_costOf_5 : decode b_K_costOf 5 = .ok (.iaload, 1) := by decide +kernel
theorem dK_costOf_6 : decode b_K_costOf 6 = .ok (.istore_n 2, 1) := by decide +kernel
theorem dK_costOf_7 : decode b_K_costOf 7 = .ok (.iconst 0, 1) := by decide +kernel
theorem dK_costOf_8 : decode b_K_costOf 8 = .ok (.istore_n 3, 1) := by decide +kernel
theorem dK_costOf_9 : decode b_K_costOf 9 = .ok (.iload_n 3, 1) := by decide +kernel
theorem dK_costOf_10 : decode b_K_costOf 10 = .ok (.bipush 8, 2) := by decide +kernel
theorem dK_costOf_12 : decode b_K_costOf 12 = .ok (.if_icmp .ge 30, 3) := by decide +kernel
theorem dK_costOf_15 : decode b_K_costOf 15 = .ok (.iload_n 2, 1) := by decide +kernel
theorem dK_costOf_16 : decode b_K_costOf 16 = .ok (.aload_n 0, 1) := by decide +kernel
theorem dK_costOf_17 : decode b_K_costOf 17 = .ok (.getfield 15, 3) := by decide +kernel
theorem dK_costOf_20 : decode b_K_costOf 20 = .ok (.iload_n 1, 1) := by decide +kernel
theorem dK_costOf_21 : decode b_K_costOf 21 = .ok (.bipush 8, 2) := by decide +kernel
theorem dK_costOf_23 : decode b_K_costOf 23 = .ok (.imul, 1) := by decide +kernel
theorem dK_costOf_24 : decode b_K_costOf 24 = .ok (.iload_n 3, 1) := by decide +kernel
theorem dK_costOf_25 : decode b_K_costOf 25 = .ok (.iadd, 1) := by decide +kernel
theorem dK_costOf_26 : decode b_K_costOf 26 = .ok (.iaload, 1) := by decide +kernel
theorem dK_costOf_27 : decode b_K_costOf 27 = .ok (.aload_n 0, 1) := by decide +kernel
theorem dK_costOf_28 : decode b_K_costOf 28 = .ok (.getfield 21, 3) := by decide +kernel
theorem dK_costOf_31 : decode b_K_costOf 31 = .ok (.iload_n 3, 1) := by decide +kernel
theorem dK_costOf_32 : decode b_K_costOf 32 = .ok (.iaload, 1) := by decide +kernel
theorem dK_costOf_33 : decode b_K_costOf 33 = .ok (.imul, 1) := by decide +kernel
theorem dK_costOf_34 : decode b_K_costOf 34 = .ok (.iadd, 1) := by decide +kernel
theorem dK_costOf_35 : decode b_K_costOf 35 = .ok (.istore_n 2, 1) := by decide +kernel
theorem dK_costOf_36 : decode b_K_costOf 36 = .ok (.iinc 3 1, 3) := by decide +kernel
theorem dK_costOf_39 : decode b_K_costOf 39 = .ok (.goto (-30), 3) := by decide +kernel
theorem dK_costOf_42 : decode b_K_costOf 42 = .ok (.iload_n 2, 1) := by decide +kernel
theorem dK_costOf_43 : decode b_K_costOf 43 = .ok (.ireturn, 1) := by decide +kernel
theorem dK_doesCall_0 : decode b_K_doesCall 0 = .ok (.iload_n 1, 1) := by decide +kernel
theorem dK_doesCall_1 : decode b_K_doesCall 1 = .ok (.iload_n 2, 1) := by decide +kernel
theorem dK_doesCall_2 : decode b_K_doesCall 2 = .ok (.if_icmp .eq 21, 3) := by decide +kernel
theorem dK_doesCall_5 : decode b_K_doesCall 5 = .ok (.aload_n 0, 1) := by decide +kernel
theorem dK_doesCall_6 : decode b_K_doesCall 6 = .ok (.getfield 18, 3) := by decide +kernel
