theorem dK_doesCall_9 : decode b_K_doesCall 9 = .ok (.iload_n 1, 1) := by decide +kernel
theorem dK_doesCall_10 : decode b_K_doesCall 10 = .ok (.bipush 8, 2) := by decide +kernel
theorem dK_doesCall_12 : decode b_K_doesCall 12 = .ok (.imul, 1) := by decide +kernel
theorem dK_doesCall_13 : decode b_K_doesCall 13 = .ok (.iload_n 2, 1) := by decide +kernel
theorem dK_doesCall_14 : decode b_K_doesCall 14 = .ok (.iadd, 1) := by decide +kernel
theorem dK_doesCall_15 : decode b_K_doesCall 15 = .ok (.iaload, 1) := by decide +kernel
theorem dK_doesCall_16 : decode b_K_doesCall 16 = .ok (.ifCond .le 7, 3) := by decide +kernel
theorem dK_doesCall_19 : decode b_K_doesCall 19 = .ok (.iconst 1, 1) := by decide +kernel
theorem dK_doesCall_20 : decode b_K_doesCall 20 = .ok (.goto 4, 3) := by decide +kernel
theorem dK_doesCall_23 : decode b_K_doesCall 23 = .ok (.iconst 0, 1) := by decide +kernel
theorem dK_doesCall_24 : decode b_K_doesCall 24 = .ok (.ireturn, 1) := by decide +kernel
theorem dK_factorOf_0 : decode b_K_factorOf 0 = .ok (.iload_n 0, 1) := by decide +kernel
theorem dK_factorOf_1 : decode b_K_factorOf 1 = .ok (.tableswitch 39 6 9 #[33, 31, 31, 31], 31) := by decide +kernel
theorem dK_factorOf_32 : decode b_K_factorOf 32 = .ok (.iconst 2, 1) := by decide +kernel
theorem dK_factorOf_33 : decode b_K_factorOf 33 = .ok (.ireturn, 1) := by decide +kernel
theorem dK_factorOf_34 : decode b_K_factorOf 34 = .ok (.iconst 1, 1) := by decide +kernel
theorem dK_factorOf_35 : decode b_K_factorOf 35 = .ok (.iload_n 1, 1) := by decide +kernel
theorem dK_factorOf_36 : decode b_K_factorOf 36 = .ok (.invokestatic 45, 3) := by decide +kernel
theorem dK_factorOf_39 : decode b_K_factorOf 39 = .ok (.ireturn, 1) := by decide +kernel
theorem dK_factorOf_40 : decode b_K_factorOf 40 = .ok (.iconst 1, 1) := by decide +kernel
theorem dK_factorOf_41 : decode b_K_factorOf 41 = .ok (.ireturn, 1) := by decide +kernel
theorem dK_init_0 : decode b_K_init 0 = .ok (.aload_n 0, 1) := by decide +kernel
theorem dK_init_1 : decode b_K_init 1 = .ok (.invokespecial 3, 3) := by decide +kernel
theorem dK_init_4 : decode b_K_init 4 = .ok (.aload_n 0, 1) := by decide +kernel
theorem dK_init_5 : decode b_K_init 5 = .ok (.bipush 80, 2) := by decide +kernel
theorem dK_init_7 : decode b_K_init 7 = .ok (.newarray .int, 2) := by decide +kernel
theorem dK_init_9 : decode b_K_init 9 = .ok (.putfield 9, 3) := by decide +kernel
theorem dK_init_12 : decode b_K_init 12 = .ok (.aload_n 0, 1) := by decide +kernel
theorem dK_init_13 : decode b_K_init 13 = .ok (.sipush 640, 3) := by decide +kernel
theorem dK_init_16 : decode b_K_init 16 = .ok (.newarray .int, 2) := by decide +kernel
theorem dK_init_18 : decode b_K_init 18 = .ok (.putfield 15, 3) := by decide +kernel
theorem dK_init_21 : decode b_K_init 21 = .ok (.aload_n 0, 1) := by decide +kernel
theorem dK_init_22 : decode b_K_init 22 = .ok (.bipush 64, 2) := by decide +kernel
theorem dK_init_24 : decode b_K_init 24 = .ok (.newarray .int, 2) := by decide +kernel
theorem dK_init_26 : decode b_K_init 26 = .ok (.putfield 18, 3) := by decide +kernel
theorem dK_init_29 : decode b_K_init 29 = .ok (.aload_n 0, 1) := by decide +kernel
theorem dK_init_30 : decode b_K_init 30 = .ok (.bipush 8, 2) := by decide +kernel
theorem dK_init_32 : decode b_K_init 32 = .ok (.newarray .int, 2) := by decide +kernel
theorem dK_init_34 : decode b_K_init 34 = .ok (.putfield 21, 3) := by decide +kernel
theorem dK_init_37 : decode b_K_init 37 = .ok (.aload_n 0, 1) := by decide +kernel
theorem dK_init_38 : decode b_K_init 38 = .ok (.bipush 8, 2) := by decide +kernel
theorem dK_init_40 : decode b_K_init 40 = .ok (.newarray .int, 2) := by decide +kernel
theorem dK_init_42 : decode b_K_init 42 = .ok (.putfield 24, 3) := by decide +kernel
theorem dK_init_45 : decode b_K_init 45 = .ok (.return_, 1) := by decide +kernel
theorem dK_isTooDear_0 : decode b_K_isTooDear 0 = .ok (.iconst 0, 1) := by decide +kernel
theorem dK_isTooDear_1 : decode b_K_isTooDear 1 = .ok (.istore 4, 2) := by decide +kernel
theorem dK_isTooDear_3 : decode b_K_isTooDear 3 = .ok (.iload 4, 2) := by decide +kernel
theorem dK_isTooDear_5 : decode b_K_isTooDear 5 = .ok (.bipush 8, 2) := by decide +kernel
theorem dK_isTooDear_7 : decode b_K_isTooDear 7 = .ok (.if_icmp .ge 42, 3) := by decide +kernel
theorem dK_isTooDear_10 : decode b_K_isTooDear 10 = .ok (.aload_n 0, 1) := by decide +kernel
theorem dK_isTooDear_11 : decode b_K_isTooDear 11 = .ok (.getfield 21, 3) := by decide +kernel
theorem dK_isTooDear_14 : decode b_K_isTooDear 14 = .ok (.iload 4, 2) := by decide +kernel
theorem dK_isTooDear_16 : decode b_K_isTooDear 16 = .ok (.iaload, 1) := by decide +kernel
theorem dK_isTooDear_17 : decode b_K_isTooDear 17 = .ok (.i2l, 1) := by decide +kernel
theorem dK_isTooDear_18 : decode b_K_isTooDear 18 = .ok (.aload_n 0, 1) := by decide +kernel
theorem dK_isTooDear_19 : decode b_K_isTooDear 19 = .ok (.getfield 18, 3) := by decide +kernel
theorem dK_isTooDear_22 : decode b_K_isTooDear 22 = .ok (.iload 4, 2) := by decide +kernel
theorem dK_isTooDear_24 : decode b_K_isTooDear 24 = .ok (.bipush 8, 2) := by decide +kernel
theorem dK_isTooDear_26 : decode b_K_isTooDear 26 = .ok (.imul, 1) := by decide +kernel
theorem dK_isTooDear_27 : decode b_K_isTooDear 27 = .ok (.iload_n 1, 1) := by decide +kernel
theorem dK_isTooDear_28 : decode b_K_isTooDear 28 = .ok (.iadd, 1) := by decide +kernel
theorem dK_isTooDear_29 : decode b_K_isTooDear 29 = .ok (.iaload, 1) := by decide +kernel
theorem dK_isTooDear_30 : decode b_K_isTooDear 30 = .ok (.i2l, 1) := by decide +kernel
theorem dK_isTooDear_31 : decode b_K_isTooDear 31 = .ok (.lload_n 2, 1) := by decide +kernel
theorem dK_isTooDear_32 : decode b_K_isTooDear 32 = .ok (.lmul, 1) := by decide +kernel
theorem dK_isTooDear_33 : decode b_K_isTooDear 33 = .ok (.ladd, 1) := by decide +kernel
theorem dK_isTooDear_34 : decode b_K_isTooDear 34 = .ok (.ldc2_w 66, 3) := by decide +kernel
theorem dK_isTooDear_37 : decode b_K_isTooDear 37 = .ok (.lcmp, 1) := by decide +kernel
theorem dK_isTooDear_38 : decode b_K_isTooDear 38 = .ok (.ifCond .le 5, 3) := by decide +kernel
theorem dK_isTooDear_41 : decode b_K_isTooDear 41 = .ok (.iconst 1, 1) := by decide +kernel
theorem dK_isTooDear_42 : decode b_K_isTooDear 42 = .ok (.ireturn, 1) := by decide +kernel
theorem dK_isTooDear_43 : decode b_K_isTooDear 43 = .ok (.iinc 4 1, 3) := by decide +kernel
theorem dK_isTooDear_46 : decode b_K_isTooDear 46 = .ok (.goto (-43), 3) := by decide +kernel
theorem dK_isTooDear_49 : decode b_K_isTooDear 49 = .ok (.iconst 0, 1) := by decide +kernel
theorem dK_isTooDear_50 : decode b_K_isTooDear 50 = .ok (.ireturn, 1) := by decide +kernel
theorem dK_workOutAdded_0 : decode b_K_workOutAdded 0 = .ok (.iconst 0, 1) := by decide +kernel
theorem dK_workOutAdded_1 : decode b_K_workOutAdded 1 = .ok (.istore_n 3, 1) := by decide +kernel
theorem dK_workOutAdded_2 : decode b_K_workOutAdded 2 = .ok (.iload_n 3, 1) := by decide +kernel
theorem dK_workOutAdded_3 : decode b_K_workOutAdded 3 = .ok (.bipush 8, 2) := by decide +kernel
theorem dK_workOutAdded_5 : decode b_K_workOutAdded 5 = .ok (.if_icmp .ge 65, 3) := by decide +kernel
theorem dK_workOutAdded_8 : decode b_K_workOutAdded 8 = .ok (.iload_n 2, 1) := by decide +kernel
theorem dK_workOutAdded_9 : decode b_K_workOutAdded 9 = .ok (.aload_n 0, 1) := by decide +kernel
theorem dK_workOutAdded_10 : decode b_K_workOutAdded 10 = .ok (.getfield 15, 3) := by decide +kernel
theorem dK_workOutAdded_13 : decode b_K_workOutAdded 13 = .ok (.iload_n 1, 1) := by decide +kernel
theorem dK_workOutAdded_14 : decode b_K_workOutAdded 14 = .ok (.bipush 8, 2) := by decide +kernel
theorem dK_workOutAdded_16 : decode b_K_workOutAdded 16 = .ok (.imul, 1) := by decide +kernel
theorem dK_workOutAdded_17 : decode b_K_workOutAdded 17 = .ok (.iload_n 3, 1) := by decide +kernel
theorem dK_workOutAdded_18 : decode b_K_workOutAdded 18 = .ok (.iadd, 1) := by decide +kernel
theorem dK_workOutAdded_19 : decode b_K_workOutAdded 19 = .ok (.iaload, 1) := by decide +kernel
theorem dK_workOutAdded_20 : decode b_K_workOutAdded 20 = .ok (.imul, 1) := by decide +kernel
theorem dK_workOutAdded_21 : decode b_K_workOutAdded 21 = .ok (.istore 4, 2) := by decide +kernel
theorem dK_workOutAdded_23 : decode b_K_workOutAdded 23 = .ok (.iconst 0, 1) := by decide +kernel
theorem dK_workOutAdded_24 : decode b_K_workOutAdded 24 = .ok (.istore 5, 2) := by decide +kernel
theorem dK_workOutAdded_26 : decode b_K_workOutAdded 26 = .ok (.iload 5, 2) := by decide +kernel
theorem dK_workOutAdded_28 : decode b_K_workOutAdded 28 = .ok (.bipush 8, 2) := by decide +kernel
theorem dK_workOutAdded_30 : decode b_K_workOutAdded 30 = .ok (.if_icmp .ge 34, 3) := by decide +kernel
theorem dK_workOutAdded_33 : decode b_K_workOutAdded 33 = .ok (.aload_n 0, 1) := by decide +kernel
theorem dK_workOutAdded_34 : decode b_K_workOutAdded 34 = .ok (.getfield 24, 3) := by decide +kernel
theorem dK_workOutAdded_37 : decode b_K_workOutAdded 37 = .ok (.iload 5, 2) := by decide +kernel
theorem dK_workOutAdded_39 : decode b_K_workOutAdded 39 = .ok (.dup2, 1) := by decide +kernel
theorem dK_workOutAdded_40 : decode b_K_workOutAdded 40 = .ok (.iaload, 1) := by decide +kernel
theorem dK_workOutAdded_41 : decode b_K_workOutAdded 41 = .ok (.iload 4, 2) := by decide +kernel
theorem dK_workOutAdded_43 : decode b_K_workOutAdded 43 = .ok (.aload_n 0, 1) := by decide +kernel
theorem dK_workOutAdded_44 : decode b_K_workOutAdded 44 = .ok (.getfield 18, 3) := by decide +kernel
theorem dK_workOutAdded_47 : decode b_K_workOutAdded 47 = .ok (.iload_n 3, 1) := by decide +kernel
theorem dK_workOutAdded_48 : decode b_K_workOutAdded 48 = .ok (.bipush 8, 2) := by decide +kernel
theorem dK_workOutAdded_50 : decode b_K_workOutAdded 50 = .ok (.imul, 1) := by decide +kernel
theorem dK_workOutAdded_51 : decode b_K_workOutAdded 51 = .ok (.iload 5, 2) := by decide +kernel
theorem dK_workOutAdded_53 : decode b_K_workOutAdded 53 = .ok (.iadd, 1) := by decide +kernel
theorem dK_workOutAdded_54 : decode b_K_workOutAdded 54 = .ok (.iaload, 1) := by decide +kernel
theorem dK_workOutAdded_55 : decode b_K_workOutAdded 55 = .ok (.imul, 1) := by decide +kernel
theorem dK_workOutAdded_56 : decode b_K_workOutAdded 56 = .ok (.iadd, 1) := by decide +kernel
theorem dK_workOutAdded_57 : decode b_K_workOutAdded 57 = .ok (.iastore, 1) := by decide +kernel
theorem dK_workOutAdded_58 : decode b_K_workOutAdded 58 = .ok (.iinc 5 1, 3) := by decide +kernel
theorem dK_workOutAdded_61 : decode b_K_workOutAdded 61 = .ok (.goto (-35), 3) := by decide +kernel
theorem dK_workOutAdded_64 : decode b_K_workOutAdded 64 = .ok (.iinc 3 1, 3) := by decide +kernel
theorem dK_workOutAdded_67 : decode b_K_workOutAdded 67 = .ok (.goto (-65), 3) := by decide +kernel
theorem dK_workOutAdded_70 : decode b_K_workOutAdded 70 = .ok (.return_, 1) := by decide +kernel
theorem dP_combine_0 : decode b_P_combine 0 = .ok (.iload_n 1, 1) := by decide +kernel
theorem dP_combine_1 : decode b_P_combine 1 = .ok (.tableswitch 152 2 9 #[47, 57, 67, 77, 152, 87, 96, 124], 47) := by decide +kernel
theorem dP_combine_48 : decode b_P_combine 48 = .ok (.aload_n 0, 1) := by decide +kernel
theorem dP_combine_49 : decode b_P_combine 49 = .ok (.getfield 27, 3) := by decide +kernel
theorem dP_combine_52 : decode b_P_combine 52 = .ok (.iload_n 2, 1) := by decide +kernel
theorem dP_combine_53 : decode b_P_combine 53 = .ok (.iload_n 3, 1) := by decide +kernel
theorem dP_combine_54 : decode b_P_combine 54 = .ok (.invokevirtual 121, 3) := by decide +kernel
theorem dP_combine_57 : decode b_P_combine 57 = .ok (.ireturn, 1) := by decide +kernel
theorem dP_combine_58 : decode b_P_combine 58 = .ok (.aload_n 0, 1) := by decide +kernel
theorem dP_combine_59 : decode b_P_combine 59 = .ok (.getfield 27, 3) := by decide +kernel
theorem dP_combine_62 : decode b_P_combine 62 = .ok (.iload_n 2, 1) := by decide +kernel
theorem dP_combine_63 : decode b_P_combine 63 = .ok (.iload_n 3, 1) := by decide +kernel
theorem dP_combine_64 : decode b_P_combine 64 = .ok (.invokevirtual 124, 3) := by decide +kernel
theorem dP_combine_67 : decode b_P_combine 67 = .ok (.ireturn, 1) := by decide +kernel
theorem dP_combine_68 : decode b_P_combine 68 = .ok (.aload_n 0, 1) := by decide +kernel
theorem dP_combine_69 : decode b_P_combine 69 = .ok (.getfield 27, 3) := by decide +kernel
theorem dP_combine_72 : decode b_P_combine 72 = .ok (.iload_n 2, 1) := by decide +kernel
theorem dP_combine_73 : decode b_P_combine 73 = .ok (.iload_n 3, 1) := by decide +kernel
theorem dP_combine_74 : decode b_P_combine 74 = .ok (.invokevirtual 127, 3) := by decide +kernel
theorem dP_combine_77 : decode b_P_combine 77 = .ok (.ireturn, 1) := by decide +kernel
theorem dP_combine_78 : decode b_P_combine 78 = .ok (.aload_n 0, 1) := by decide +kernel
theorem dP_combine_79 : decode b_P_combine 79 = .ok (.getfield 27, 3) := by decide +kernel
theorem dP_combine_82 : decode b_P_combine 82 = .ok (.iconst 0, 1) := by decide +kernel
theorem dP_combine_83 : decode b_P_combine 83 = .ok (.iload_n 2, 1) := by decide +kernel
theorem dP_combine_84 : decode b_P_combine 84 = .ok (.invokevirtual 124, 3) := by decide +kernel
theorem dP_combine_87 : decode b_P_combine 87 = .ok (.ireturn, 1) := by decide +kernel
theorem dP_combine_88 : decode b_P_combine 88 = .ok (.aload_n 0, 1) := by decide +kernel
theorem dP_combine_89 : decode b_P_combine 89 = .ok (.getfield 27, 3) := by decide +kernel
theorem dP_combine_92 : decode b_P_combine 92 = .ok (.iload_n 2, 1) := by decide +kernel
theorem dP_combine_93 : decode b_P_combine 93 = .ok (.invokevirtual 130, 3) := by decide +kernel
theorem dP_combine_96 : decode b_P_combine 96 = .ok (.ireturn, 1) := by decide +kernel
theorem dP_combine_97 : decode b_P_combine 97 = .ok (.aload_n 0, 1) := by decide +kernel
theorem dP_combine_98 : decode b_P_combine 98 = .ok (.getfield 27, 3) := by decide +kernel
theorem dP_combine_101 : decode b_P_combine 101 = .ok (.getfield 87, 3) := by decide +kernel
theorem dP_combine_104 : decode b_P_combine 104 = .ok (.iload_n 2, 1) := by decide +kernel
theorem dP_combine_105 : decode b_P_combine 105 = .ok (.laload, 1) := by decide +kernel
theorem dP_combine_106 : decode b_P_combine 106 = .ok (.aload_n 0, 1) := by decide +kernel
theorem dP_combine_107 : decode b_P_combine 107 = .ok (.getfield 27, 3) := by decide +kernel
theorem dP_combine_110 : decode b_P_combine 110 = .ok (.getfield 87, 3) := by decide +kernel
theorem dP_combine_113 : decode b_P_combine 113 = .ok (.iload_n 3, 1) := by decide +kernel
theorem dP_combine_114 : decode b_P_combine 114 = .ok (.laload, 1) := by decide +kernel
theorem dP_combine_115 : decode b_P_combine 115 = .ok (.lcmp, 1) := by decide +kernel
theorem dP_combine_116 : decode b_P_combine 116 = .ok (.ifCond .gt 7, 3) := by decide +kernel
theorem dP_combine_119 : decode b_P_combine 119 = .ok (.iload_n 2, 1) := by decide +kernel
theorem dP_combine_120 : decode b_P_combine 120 = .ok (.goto 4, 3) := by decide +kernel
theorem dP_combine_123 : decode b_P_combine 123 = .ok (.iload_n 3, 1) := by decide +kernel
theorem dP_combine_124 : decode b_P_combine 124 = .ok (.ireturn, 1) := by decide +kernel
theorem dP_combine_125 : decode b_P_combine 125 = .ok (.aload_n 0, 1) := by decide +kernel
theorem dP_combine_126 : decode b_P_combine 126 = .ok (.getfield 27, 3) := by decide +kernel
theorem dP_combine_129 : decode b_P_combine 129 = .ok (.getfield 87, 3) := by decide +kernel
theorem dP_combine_132 : decode b_P_combine 132 = .ok (.iload_n 2, 1) := by decide +kernel
theorem dP_combine_133 : decode b_P_combine 133 = .ok (.laload, 1) := by decide +kernel
theorem dP_combine_134 : decode b_P_combine 134 = .ok (.aload_n 0, 1) := by decide +kernel
theorem dP_combine_135 : decode b_P_combine 135 = .ok (.getfield 27, 3) := by decide +kernel
theorem dP_combine_138 : decode b_P_combine 138 = .ok (.getfield 87, 3) := by decide +kernel
theorem dP_combine_141 : decode b_P_combine 141 = .ok (.iload_n 3, 1) := by decide +kernel
theorem dP_combine_142 : decode b_P_combine 142 = .ok (.laload, 1) := by decide +kernel
theorem dP_combine_143 : decode b_P_combine 143 = .ok (.lcmp, 1) := by decide +kernel
theorem dP_combine_144 : decode b_P_combine 144 = .ok (.ifCond .lt 7, 3) := by decide +kernel
theorem dP_combine_147 : decode b_P_combine 147 = .ok (.iload_n 2, 1) := by decide +kernel
theorem dP_combine_148 : decode b_P_combine 148 = .ok (.goto 4, 3) := by decide +kernel
theorem dP_combine_151 : decode b_P_combine 151 = .ok (.iload_n 3, 1) := by decide +kernel
theorem dP_combine_152 : decode b_P_combine 152 = .ok (.ireturn, 1) := by decide +kernel
theorem dP_combine_153 : decode b_P_combine 153 = .ok (.iconst 0, 1) := by decide +kernel
theorem dP_combine_154 : decode b_P_combine 154 = .ok (.ireturn, 1) := by decide +kernel
theorem dP_doBlock_0 : decode b_P_doBlock 0 = .ok (.iload 5, 2) := by decide +kernel
theorem dP_doBlock_2 : decode b_P_doBlock 2 = .ok (.bipush 50, 2) := by decide +kernel
theorem dP_doBlock_4 : decode b_P_doBlock 4 = .ok (.if_icmp .le 4, 3) := by decide +kernel
theorem dP_doBlock_7 : decode b_P_doBlock 7 = .ok (.return_, 1) := by decide +kernel
theorem dP_doBlock_8 : decode b_P_doBlock 8 = .ok (.iload_n 2, 1) := by decide +kernel
theorem dP_doBlock_9 : decode b_P_doBlock 9 = .ok (.istore 6, 2) := by decide +kernel
theorem dP_doBlock_11 : decode b_P_doBlock 11 = .ok (.iload_n 2, 1) := by decide +kernel
theorem dP_doBlock_12 : decode b_P_doBlock 12 = .ok (.istore 7, 2) := by decide +kernel
theorem dP_doBlock_14 : decode b_P_doBlock 14 = .ok (.iload 7, 2) := by decide +kernel
theorem dP_doBlock_16 : decode b_P_doBlock 16 = .ok (.iload_n 3, 1) := by decide +kernel
theorem dP_doBlock_17 : decode b_P_doBlock 17 = .ok (.if_icmp .ge 29, 3) := by decide +kernel
theorem dP_doBlock_20 : decode b_P_doBlock 20 = .ok (.iload 7, 2) := by decide +kernel
theorem dP_doBlock_22 : decode b_P_doBlock 22 = .ok (.iload 6, 2) := by decide +kernel
theorem dP_doBlock_24 : decode b_P_doBlock 24 = .ok (.if_icmp .ne 16, 3) := by decide +kernel
theorem dP_doBlock_27 : decode b_P_doBlock 27 = .ok (.aload_n 0, 1) := by decide +kernel
theorem dP_doBlock_28 : decode b_P_doBlock 28 = .ok (.aload_n 1, 1) := by decide +kernel
theorem dP_doBlock_29 : decode b_P_doBlock 29 = .ok (.iload 7, 2) := by decide +kernel
theorem dP_doBlock_31 : decode b_P_doBlock 31 = .ok (.iload 4, 2) := by decide +kernel
theorem dP_doBlock_33 : decode b_P_doBlock 33 = .ok (.iload 5, 2) := by decide +kernel
theorem dP_doBlock_35 : decode b_P_doBlock 35 = .ok (.invokevirtual 57, 3) := by decide +kernel
theorem dP_doBlock_38 : decode b_P_doBlock 38 = .ok (.istore 6, 2) := by decide +kernel
theorem dP_doBlock_40 : decode b_P_doBlock 40 = .ok (.iinc 7 1, 3) := by decide +kernel
theorem dP_doBlock_43 : decode b_P_doBlock 43 = .ok (.goto (-29), 3) := by decide +kernel
theorem dP_doBlock_46 : decode b_P_doBlock 46 = .ok (.return_, 1) := by decide +kernel
theorem dP_doIf_0 : decode b_P_doIf 0 = .ok (.aload_n 1, 1) := by decide +kernel
theorem dP_doIf_1 : decode b_P_doIf 1 = .ok (.iload_n 2, 1) := by decide +kernel
theorem dP_doIf_2 : decode b_P_doIf 2 = .ok (.invokevirtual 80, 3) := by decide +kernel
theorem dP_doIf_5 : decode b_P_doIf 5 = .ok (.istore 5, 2) := by decide +kernel
theorem dP_doIf_7 : decode b_P_doIf 7 = .ok (.aload_n 1, 1) := by decide +kernel
theorem dP_doIf_8 : decode b_P_doIf 8 = .ok (.iload_n 2, 1) := by decide +kernel
theorem dP_doIf_9 : decode b_P_doIf 9 = .ok (.invokevirtual 84, 3) := by decide +kernel
theorem dP_doIf_12 : decode b_P_doIf 12 = .ok (.istore 6, 2) := by decide +kernel
theorem dP_doIf_14 : decode b_P_doIf 14 = .ok (.aload_n 0, 1) := by decide +kernel
theorem dP_doIf_15 : decode b_P_doIf 15 = .ok (.aload_n 1, 1) := by decide +kernel
theorem dP_doIf_16 : decode b_P_doIf 16 = .ok (.getfield 64, 3) := by decide +kernel
theorem dP_doIf_19 : decode b_P_doIf 19 = .ok (.iload_n 2, 1) := by decide +kernel
theorem dP_doIf_20 : decode b_P_doIf 20 = .ok (.iaload, 1) := by decide +kernel
theorem dP_doIf_21 : decode b_P_doIf 21 = .ok (.iload_n 3, 1) := by decide +kernel
theorem dP_doIf_22 : decode b_P_doIf 22 = .ok (.iload 4, 2) := by decide +kernel
theorem dP_doIf_24 : decode b_P_doIf 24 = .ok (.iconst 1, 1) := by decide +kernel
theorem dP_doIf_25 : decode b_P_doIf 25 = .ok (.iadd, 1) := by decide +kernel
theorem dP_doIf_26 : decode b_P_doIf 26 = .ok (.invokevirtual 70, 3) := by decide +kernel
theorem dP_doIf_29 : decode b_P_doIf 29 = .ok (.istore 7, 2) := by decide +kernel
theorem dP_doIf_31 : decode b_P_doIf 31 = .ok (.aload_n 0, 1) := by decide +kernel
theorem dP_doIf_32 : decode b_P_doIf 32 = .ok (.getfield 27, 3) := by decide +kernel
theorem dP_doIf_35 : decode b_P_doIf 35 = .ok (.getfield 87, 3) := by decide +kernel
theorem dP_doIf_38 : decode b_P_doIf 38 = .ok (.iload 7, 2) := by decide +kernel
theorem dP_doIf_40 : decode b_P_doIf 40 = .ok (.laload, 1) := by decide +kernel
theorem dP_doIf_41 : decode b_P_doIf 41 = .ok (.lconst 0, 1) := by decide +kernel
theorem dP_doIf_42 : decode b_P_doIf 42 = .ok (.lcmp, 1) := by decide +kernel
theorem dP_doIf_43 : decode b_P_doIf 43 = .ok (.ifCond .le 21, 3) := by decide +kernel
theorem dP_doIf_46 : decode b_P_doIf 46 = .ok (.aload_n 0, 1) := by decide +kernel
theorem dP_doIf_47 : decode b_P_doIf 47 = .ok (.aload_n 1, 1) := by decide +kernel
theorem dP_doIf_48 : decode b_P_doIf 48 = .ok (.iload_n 2, 1) := by decide +kernel
theorem dP_doIf_49 : decode b_P_doIf 49 = .ok (.iconst 1, 1) := by decide +kernel
theorem dP_doIf_50 : decode b_P_doIf 50 = .ok (.iadd, 1) := by decide +kernel
theorem dP_doIf_51 : decode b_P_doIf 51 = .ok (.iload 5, 2) := by decide +kernel
theorem dP_doIf_53 : decode b_P_doIf 53 = .ok (.iload_n 3, 1) := by decide +kernel
theorem dP_doIf_54 : decode b_P_doIf 54 = .ok (.iload 4, 2) := by decide +kernel
theorem dP_doIf_56 : decode b_P_doIf 56 = .ok (.iconst 1, 1) := by decide +kernel
theorem dP_doIf_57 : decode b_P_doIf 57 = .ok (.iadd, 1) := by decide +kernel
theorem dP_doIf_58 : decode b_P_doIf 58 = .ok (.invokevirtual 53, 3) := by decide +kernel
theorem dP_doIf_61 : decode b_P_doIf 61 = .ok (.goto 19, 3) := by decide +kernel
theorem dP_doIf_64 : decode b_P_doIf 64 = .ok (.aload_n 0, 1) := by decide +kernel
theorem dP_doIf_65 : decode b_P_doIf 65 = .ok (.aload_n 1, 1) := by decide +kernel
theorem dP_doIf_66 : decode b_P_doIf 66 = .ok (.iload 5, 2) := by decide +kernel
theorem dP_doIf_68 : decode b_P_doIf 68 = .ok (.iconst 1, 1) := by decide +kernel
theorem dP_doIf_69 : decode b_P_doIf 69 = .ok (.iadd, 1) := by decide +kernel
theorem dP_doIf_70 : decode b_P_doIf 70 = .ok (.iload 6, 2) := by decide +kernel
theorem dP_doIf_72 : decode b_P_doIf 72 = .ok (.iload_n 3, 1) := by decide +kernel
theorem dP_doIf_73 : decode b_P_doIf 73 = .ok (.iload 4, 2) := by decide +kernel
theorem dP_doIf_75 : decode b_P_doIf 75 = .ok (.iconst 1, 1) := by decide +kernel
theorem dP_doIf_76 : decode b_P_doIf 76 = .ok (.iadd, 1) := by decide +kernel
theorem dP_doIf_77 : decode b_P_doIf 77 = .ok (.invokevirtual 53, 3) := by decide +kernel
theorem dP_doIf_80 : decode b_P_doIf 80 = .ok (.iload 6, 2) := by decide +kernel
theorem dP_doIf_82 : decode b_P_doIf 82 = .ok (.iconst 1, 1) := by decide +kernel
theorem dP_doIf_83 : decode b_P_doIf 83 = .ok (.iadd, 1) := by decide +kernel
theorem dP_doIf_84 : decode b_P_doIf 84 = .ok (.ireturn, 1) := by decide +kernel
theorem dP_doStatement_0 : decode b_P_doStatement 0 = .ok (.aload_n 1, 1) := by decide +kernel
theorem dP_doStatement_1 : decode b_P_doStatement 1 = .ok (.getfield 61, 3) := by decide +kernel
theorem dP_doStatement_4 : decode b_P_doStatement 4 = .ok (.iload_n 2, 1) := by decide +kernel
theorem dP_doStatement_5 : decode b_P_doStatement 5 = .ok (.iaload, 1) := by decide +kernel
theorem dP_doStatement_6 : decode b_P_doStatement 6 = .ok (.istore 5, 2) := by decide +kernel
theorem dP_doStatement_8 : decode b_P_doStatement 8 = .ok (.aload_n 1, 1) := by decide +kernel
theorem dP_doStatement_9 : decode b_P_doStatement 9 = .ok (.getfield 64, 3) := by decide +kernel
theorem dP_doStatement_12 : decode b_P_doStatement 12 = .ok (.iload_n 2, 1) := by decide +kernel
theorem dP_doStatement_13 : decode b_P_doStatement 13 = .ok (.iaload, 1) := by decide +kernel
theorem dP_doStatement_14 : decode b_P_doStatement 14 = .ok (.istore 6, 2) := by decide +kernel
theorem dP_doStatement_16 : decode b_P_doStatement 16 = .ok (.aload_n 1, 1) := by decide +kernel
theorem dP_doStatement_17 : decode b_P_doStatement 17 = .ok (.getfield 67, 3) := by decide +kernel
theorem dP_doStatement_20 : decode b_P_doStatement 20 = .ok (.iload_n 2, 1) := by decide +kernel
theorem dP_doStatement_21 : decode b_P_doStatement 21 = .ok (.iaload, 1) := by decide +kernel
theorem dP_doStatement_22 : decode b_P_doStatement 22 = .ok (.tableswitch 156 0 4 #[34, 61, 103, 156, 113], 34) := by decide +kernel
theorem dP_doStatement_56 : decode b_P_doStatement 56 = .ok (.aload_n 0, 1) := by decide +kernel
theorem dP_doStatement_57 : decode b_P_doStatement 57 = .ok (.getfield 31, 3) := by decide +kernel
theorem dP_doStatement_60 : decode b_P_doStatement 60 = .ok (.iload_n 3, 1) := by decide +kernel
theorem dP_doStatement_61 : decode b_P_doStatement 61 = .ok (.bipush 14, 2) := by decide +kernel
theorem dP_doStatement_63 : decode b_P_doStatement 63 = .ok (.imul, 1) := by decide +kernel
theorem dP_doStatement_64 : decode b_P_doStatement 64 = .ok (.iload 5, 2) := by decide +kernel
theorem dP_doStatement_66 : decode b_P_doStatement 66 = .ok (.iadd, 1) := by decide +kernel
theorem dP_doStatement_67 : decode b_P_doStatement 67 = .ok (.aload_n 0, 1) := by decide +kernel
theorem dP_doStatement_68 : decode b_P_doStatement 68 = .ok (.iload 6, 2) := by decide +kernel
theorem dP_doStatement_70 : decode b_P_doStatement 70 = .ok (.iload_n 3, 1) := by decide +kernel
theorem dP_doStatement_71 : decode b_P_doStatement 71 = .ok (.iload 4, 2) := by decide +kernel
theorem dP_doStatement_73 : decode b_P_doStatement 73 = .ok (.iconst 1, 1) := by decide +kernel
theorem dP_doStatement_74 : decode b_P_doStatement 74 = .ok (.iadd, 1) := by decide +kernel
theorem dP_doStatement_75 : decode b_P_doStatement 75 = .ok (.invokevirtual 70, 3) := by decide +kernel
theorem dP_doStatement_78 : decode b_P_doStatement 78 = .ok (.iastore, 1) := by decide +kernel
theorem dP_doStatement_79 : decode b_P_doStatement 79 = .ok (.iload_n 2, 1) := by decide +kernel
theorem dP_doStatement_80 : decode b_P_doStatement 80 = .ok (.iconst 1, 1) := by decide +kernel
theorem dP_doStatement_81 : decode b_P_doStatement 81 = .ok (.iadd, 1) := by decide +kernel
theorem dP_doStatement_82 : decode b_P_doStatement 82 = .ok (.ireturn, 1) := by decide +kernel
theorem dP_doStatement_83 : decode b_P_doStatement 83 = .ok (.aload_n 0, 1) := by decide +kernel
theorem dP_doStatement_84 : decode b_P_doStatement 84 = .ok (.getfield 31, 3) := by decide +kernel
theorem dP_doStatement_87 : decode b_P_doStatement 87 = .ok (.iload_n 3, 1) := by decide +kernel
theorem dP_doStatement_88 : decode b_P_doStatement 88 = .ok (.bipush 14, 2) := by decide +kernel
theorem dP_doStatement_90 : decode b_P_doStatement 90 = .ok (.imul, 1) := by decide +kernel
theorem dP_doStatement_91 : decode b_P_doStatement 91 = .ok (.iconst 5, 1) := by decide +kernel
theorem dP_doStatement_92 : decode b_P_doStatement 92 = .ok (.iadd, 1) := by decide +kernel
theorem dP_doStatement_93 : decode b_P_doStatement 93 = .ok (.iaload, 1) := by decide +kernel
theorem dP_doStatement_94 : decode b_P_doStatement 94 = .ok (.istore 7, 2) := by decide +kernel
theorem dP_doStatement_96 : decode b_P_doStatement 96 = .ok (.aload_n 0, 1) := by decide +kernel
theorem dP_doStatement_97 : decode b_P_doStatement 97 = .ok (.getfield 31, 3) := by decide +kernel
theorem dP_doStatement_100 : decode b_P_doStatement 100 = .ok (.aload_n 0, 1) := by decide +kernel
theorem dP_doStatement_101 : decode b_P_doStatement 101 = .ok (.iload_n 3, 1) := by decide +kernel
theorem dP_doStatement_102 : decode b_P_doStatement 102 = .ok (.iload 5, 2) := by decide +kernel
theorem dP_doStatement_104 : decode b_P_doStatement 104 = .ok (.iload 7, 2) := by decide +kernel
theorem dP_doStatement_106 : decode b_P_doStatement 106 = .ok (.invokevirtual 74, 3) := by decide +kernel
theorem dP_doStatement_109 : decode b_P_doStatement 109 = .ok (.aload_n 0, 1) := by decide +kernel
theorem dP_doStatement_110 : decode b_P_doStatement 110 = .ok (.iload 6, 2) := by decide +kernel
theorem dP_doStatement_112 : decode b_P_doStatement 112 = .ok (.iload_n 3, 1) := by decide +kernel
theorem dP_doStatement_113 : decode b_P_doStatement 113 = .ok (.iload 4, 2) := by decide +kernel
theorem dP_doStatement_115 : decode b_P_doStatement 115 = .ok (.iconst 1, 1) := by decide +kernel
theorem dP_doStatement_116 : decode b_P_doStatement 116 = .ok (.iadd, 1) := by decide +kernel
theorem dP_doStatement_117 : decode b_P_doStatement 117 = .ok (.invokevirtual 70, 3) := by decide +kernel
theorem dP_doStatement_120 : decode b_P_doStatement 120 = .ok (.iastore, 1) := by decide +kernel
theorem dP_doStatement_121 : decode b_P_doStatement 121 = .ok (.iload_n 2, 1) := by decide +kernel
theorem dP_doStatement_122 : decode b_P_doStatement 122 = .ok (.iconst 1, 1) := by decide +kernel
theorem dP_doStatement_123 : decode b_P_doStatement 123 = .ok (.iadd, 1) := by decide +kernel
theorem dP_doStatement_124 : decode b_P_doStatement 124 = .ok (.ireturn, 1) := by decide +kernel
theorem dP_doStatement_125 : decode b_P_doStatement 125 = .ok (.aload_n 0, 1) := by decide +kernel
theorem dP_doStatement_126 : decode b_P_doStatement 126 = .ok (.aload_n 1, 1) := by decide +kernel
theorem dP_doStatement_127 : decode b_P_doStatement 127 = .ok (.iload_n 2, 1) := by decide +kernel
theorem dP_doStatement_128 : decode b_P_doStatement 128 = .ok (.iload_n 3, 1) := by decide +kernel
theorem dP_doStatement_129 : decode b_P_doStatement 129 = .ok (.iload 4, 2) := by decide +kernel
theorem dP_doStatement_131 : decode b_P_doStatement 131 = .ok (.invokevirtual 77, 3) := by decide +kernel
theorem dP_doStatement_134 : decode b_P_doStatement 134 = .ok (.ireturn, 1) := by decide +kernel
theorem dP_doStatement_135 : decode b_P_doStatement 135 = .ok (.aload_n 1, 1) := by decide +kernel
theorem dP_doStatement_136 : decode b_P_doStatement 136 = .ok (.iload_n 2, 1) := by decide +kernel
theorem dP_doStatement_137 : decode b_P_doStatement 137 = .ok (.invokevirtual 80, 3) := by decide +kernel
theorem dP_doStatement_140 : decode b_P_doStatement 140 = .ok (.istore 8, 2) := by decide +kernel
theorem dP_doStatement_142 : decode b_P_doStatement 142 = .ok (.iconst 0, 1) := by decide +kernel
theorem dP_doStatement_143 : decode b_P_doStatement 143 = .ok (.istore 9, 2) := by decide +kernel
theorem dP_doStatement_145 : decode b_P_doStatement 145 = .ok (.iload 9, 2) := by decide +kernel
theorem dP_doStatement_147 : decode b_P_doStatement 147 = .ok (.iload 6, 2) := by decide +kernel
theorem dP_doStatement_149 : decode b_P_doStatement 149 = .ok (.if_icmp .ge 24, 3) := by decide +kernel
theorem dP_doStatement_152 : decode b_P_doStatement 152 = .ok (.aload_n 0, 1) := by decide +kernel
theorem dP_doStatement_153 : decode b_P_doStatement 153 = .ok (.aload_n 1, 1) := by decide +kernel
theorem dP_doStatement_154 : decode b_P_doStatement 154 = .ok (.iload_n 2, 1) := by decide +kernel
theorem dP_doStatement_155 : decode b_P_doStatement 155 = .ok (.iconst 1, 1) := by decide +kernel
theorem dP_doStatement_156 : decode b_P_doStatement 156 = .ok (.iadd, 1) := by decide +kernel
theorem dP_doStatement_157 : decode b_P_doStatement 157 = .ok (.iload 8, 2) := by decide +kernel
theorem dP_doStatement_159 : decode b_P_doStatement 159 = .ok (.iload_n 3, 1) := by decide +kernel
theorem dP_doStatement_160 : decode b_P_doStatement 160 = .ok (.iload 4, 2) := by decide +kernel
theorem dP_doStatement_162 : decode b_P_doStatement 162 = .ok (.iconst 1, 1) := by decide +kernel
theorem dP_doStatement_163 : decode b_P_doStatement 163 = .ok (.iadd, 1) := by decide +kernel
theorem dP_doStatement_164 : decode b_P_doStatement 164 = .ok (.invokevirtual 53, 3) := by decide +kernel
theorem dP_doStatement_167 : decode b_P_doStatement 167 = .ok (.iinc 9 1, 3) := by decide +kernel
theorem dP_doStatement_170 : decode b_P_doStatement 170 = .ok (.goto (-25), 3) := by decide +kernel
theorem dP_doStatement_173 : decode b_P_doStatement 173 = .ok (.iload 8, 2) := by decide +kernel
theorem dP_doStatement_175 : decode b_P_doStatement 175 = .ok (.iconst 1, 1) := by decide +kernel
theorem dP_doStatement_176 : decode b_P_doStatement 176 = .ok (.iadd, 1) := by decide +kernel
theorem dP_doStatement_177 : decode b_P_doStatement 177 = .ok (.ireturn, 1) := by decide +kernel
theorem dP_doStatement_178 : decode b_P_doStatement 178 = .ok (.iload_n 2, 1) := by decide +kernel
theorem dP_doStatement_179 : decode b_P_doStatement 179 = .ok (.iconst 1, 1) := by decide +kernel
theorem dP_doStatement_180 : decode b_P_doStatement 180 = .ok (.iadd, 1) := by decide +kernel
theorem dP_doStatement_181 : decode b_P_doStatement 181 = .ok (.ireturn, 1) := by decide +kernel
theorem dP_elementCell_0 : decode b_P_elementCell 0 = .ok (.aload_n 0, 1) := by decide +kernel
theorem dP_elementCell_1 : decode b_P_elementCell 1 = .ok (.getfield 27, 3) := by decide +kernel
theorem dP_elementCell_4 : decode b_P_elementCell 4 = .ok (.getfield 87, 3) := by decide +kernel
theorem dP_elementCell_7 : decode b_P_elementCell 7 = .ok (.iload_n 3, 1) := by decide +kernel
theorem dP_elementCell_8 : decode b_P_elementCell 8 = .ok (.laload, 1) := by decide +kernel
theorem dP_elementCell_9 : decode b_P_elementCell 9 = .ok (.ldc2_w 91, 3) := by decide +kernel
theorem dP_elementCell_12 : decode b_P_elementCell 12 = .ok (.land, 1) := by decide +kernel
theorem dP_elementCell_13 : decode b_P_elementCell 13 = .ok (.l2i, 1) := by decide +kernel
theorem dP_elementCell_14 : decode b_P_elementCell 14 = .ok (.istore 4, 2) := by decide +kernel
theorem dP_elementCell_16 : decode b_P_elementCell 16 = .ok (.iload_n 1, 1) := by decide +kernel
theorem dP_elementCell_17 : decode b_P_elementCell 17 = .ok (.bipush 14, 2) := by decide +kernel
theorem dP_elementCell_19 : decode b_P_elementCell 19 = .ok (.imul, 1) := by decide +kernel
theorem dP_elementCell_20 : decode b_P_elementCell 20 = .ok (.bipush 6, 2) := by decide +kernel
theorem dP_elementCell_22 : decode b_P_elementCell 22 = .ok (.iadd, 1) := by decide +kernel
theorem dP_elementCell_23 : decode b_P_elementCell 23 = .ok (.iload_n 2, 1) := by decide +kernel
theorem dP_elementCell_24 : decode b_P_elementCell 24 = .ok (.iconst 4, 1) := by decide +kernel
theorem dP_elementCell_25 : decode b_P_elementCell 25 = .ok (.imul, 1) := by decide +kernel
theorem dP_elementCell_26 : decode b_P_elementCell 26 = .ok (.iadd, 1) := by decide +kernel
theorem dP_elementCell_27 : decode b_P_elementCell 27 = .ok (.iload 4, 2) := by decide +kernel
theorem dP_elementCell_29 : decode b_P_elementCell 29 = .ok (.iadd, 1) := by decide +kernel
theorem dP_elementCell_30 : decode b_P_elementCell 30 = .ok (.ireturn, 1) := by decide +kernel
theorem dP_enter_0 : decode b_P_enter 0 = .ok (.aload_n 0, 1) := by decide +kernel
theorem dP_enter_1 : decode b_P_enter 1 = .ok (.getfield 20, 3) := by decide +kernel
theorem dP_enter_4 : decode b_P_enter 4 = .ok (.iload_n 1, 1) := by decide +kernel
theorem dP_enter_5 : decode b_P_enter 5 = .ok (.aaload, 1) := by decide +kernel
theorem dP_enter_6 : decode b_P_enter 6 = .ok (.astore 6, 2) := by decide +kernel
theorem dP_enter_8 : decode b_P_enter 8 = .ok (.aload 6, 2) := by decide +kernel
theorem dP_enter_10 : decode b_P_enter 10 = .ok (.ifnull 10, 3) := by decide +kernel
theorem dP_enter_13 : decode b_P_enter 13 = .ok (.iload 4, 2) := by decide +kernel
theorem dP_enter_15 : decode b_P_enter 15 = .ok (.bipush 8, 2) := by decide +kernel
theorem dP_enter_17 : decode b_P_enter 17 = .ok (.if_icmp .lt 5, 3) := by decide +kernel
theorem dP_enter_20 : decode b_P_enter 20 = .ok (.iconst 0, 1) := by decide +kernel
theorem dP_enter_21 : decode b_P_enter 21 = .ok (.ireturn, 1) := by decide +kernel
theorem dP_enter_22 : decode b_P_enter 22 = .ok (.iload 4, 2) := by decide +kernel
theorem dP_enter_24 : decode b_P_enter 24 = .ok (.bipush 14, 2) := by decide +kernel
theorem dP_enter_26 : decode b_P_enter 26 = .ok (.imul, 1) := by decide +kernel
theorem dP_enter_27 : decode b_P_enter 27 = .ok (.istore 7, 2) := by decide +kernel
theorem dP_enter_29 : decode b_P_enter 29 = .ok (.aload_n 0, 1) := by decide +kernel
theorem dP_enter_30 : decode b_P_enter 30 = .ok (.getfield 31, 3) := by decide +kernel
theorem dP_enter_33 : decode b_P_enter 33 = .ok (.iload 7, 2) := by decide +kernel
theorem dP_enter_35 : decode b_P_enter 35 = .ok (.iload 7, 2) := by decide +kernel
theorem dP_enter_37 : decode b_P_enter 37 = .ok (.bipush 14, 2) := by decide +kernel
theorem dP_enter_39 : decode b_P_enter 39 = .ok (.iadd, 1) := by decide +kernel
theorem dP_enter_40 : decode b_P_enter 40 = .ok (.iconst 0, 1) := by decide +kernel
theorem dP_enter_41 : decode b_P_enter 41 = .ok (.invokestatic 43, 3) := by decide +kernel
theorem dP_enter_44 : decode b_P_enter 44 = .ok (.aload_n 0, 1) := by decide +kernel
theorem dP_enter_45 : decode b_P_enter 45 = .ok (.getfield 31, 3) := by decide +kernel
theorem dP_enter_48 : decode b_P_enter 48 = .ok (.iload 7, 2) := by decide +kernel
theorem dP_enter_50 : decode b_P_enter 50 = .ok (.iload_n 2, 1) := by decide +kernel
theorem dP_enter_51 : decode b_P_enter 51 = .ok (.iastore, 1) := by decide +kernel
theorem dP_enter_52 : decode b_P_enter 52 = .ok (.aload_n 0, 1) := by decide +kernel
theorem dP_enter_53 : decode b_P_enter 53 = .ok (.getfield 31, 3) := by decide +kernel
theorem dP_enter_56 : decode b_P_enter 56 = .ok (.iload 7, 2) := by decide +kernel
theorem dP_enter_58 : decode b_P_enter 58 = .ok (.iconst 1, 1) := by decide +kernel
theorem dP_enter_59 : decode b_P_enter 59 = .ok (.iadd, 1) := by decide +kernel
theorem dP_enter_60 : decode b_P_enter 60 = .ok (.iload_n 3, 1) := by decide +kernel
theorem dP_enter_61 : decode b_P_enter 61 = .ok (.iastore, 1) := by decide +kernel
theorem dP_enter_62 : decode b_P_enter 62 = .ok (.aload_n 0, 1) := by decide +kernel
theorem dP_enter_63 : decode b_P_enter 63 = .ok (.aload 6, 2) := by decide +kernel
theorem dP_enter_65 : decode b_P_enter 65 = .ok (.iconst 0, 1) := by decide +kernel
theorem dP_enter_66 : decode b_P_enter 66 = .ok (.aload 6, 2) := by decide +kernel
theorem dP_enter_68 : decode b_P_enter 68 = .ok (.getfield 49, 3) := by decide +kernel
theorem dP_enter_71 : decode b_P_enter 71 = .ok (.iload 4, 2) := by decide +kernel
theorem dP_enter_73 : decode b_P_enter 73 = .ok (.iload 5, 2) := by decide +kernel
theorem dP_enter_75 : decode b_P_enter 75 = .ok (.invokevirtual 53, 3) := by decide +kernel
theorem dP_enter_78 : decode b_P_enter 78 = .ok (.aload_n 0, 1) := by decide +kernel
theorem dP_enter_79 : decode b_P_enter 79 = .ok (.getfield 31, 3) := by decide +kernel
theorem dP_enter_82 : decode b_P_enter 82 = .ok (.iload 7, 2) := by decide +kernel
theorem dP_enter_84 : decode b_P_enter 84 = .ok (.iaload, 1) := by decide +kernel
theorem dP_enter_85 : decode b_P_enter 85 = .ok (.ireturn, 1) := by decide +kernel
theorem dP_evaluate_0 : decode b_P_evaluate 0 = .ok (.iload_n 3, 1) := by decide +kernel
theorem dP_evaluate_1 : decode b_P_evaluate 1 = .ok (.bipush 50, 2) := by decide +kernel
theorem dP_evaluate_3 : decode b_P_evaluate 3 = .ok (.if_icmp .le 5, 3) := by decide +kernel
theorem dP_evaluate_6 : decode b_P_evaluate 6 = .ok (.iconst 0, 1) := by decide +kernel
theorem dP_evaluate_7 : decode b_P_evaluate 7 = .ok (.ireturn, 1) := by decide +kernel
theorem dP_evaluate_8 : decode b_P_evaluate 8 = .ok (.aload_n 0, 1) := by decide +kernel
theorem dP_evaluate_9 : decode b_P_evaluate 9 = .ok (.getfield 12, 3) := by decide +kernel
theorem dP_evaluate_12 : decode b_P_evaluate 12 = .ok (.getfield 93, 3) := by decide +kernel
theorem dP_evaluate_15 : decode b_P_evaluate 15 = .ok (.iload_n 1, 1) := by decide +kernel
theorem dP_evaluate_16 : decode b_P_evaluate 16 = .ok (.iaload, 1) := by decide +kernel
theorem dP_evaluate_17 : decode b_P_evaluate 17 = .ok (.istore 4, 2) := by decide +kernel
theorem dP_evaluate_19 : decode b_P_evaluate 19 = .ok (.aload_n 0, 1) := by decide +kernel
theorem dP_evaluate_20 : decode b_P_evaluate 20 = .ok (.getfield 12, 3) := by decide +kernel
theorem dP_evaluate_23 : decode b_P_evaluate 23 = .ok (.getfield 94, 3) := by decide +kernel
theorem dP_evaluate_26 : decode b_P_evaluate 26 = .ok (.iload_n 1, 1) := by decide +kernel
theorem dP_evaluate_27 : decode b_P_evaluate 27 = .ok (.iaload, 1) := by decide +kernel
theorem dP_evaluate_28 : decode b_P_evaluate 28 = .ok (.istore 5, 2) := by decide +kernel
theorem dP_evaluate_30 : decode b_P_evaluate 30 = .ok (.aload_n 0, 1) := by decide +kernel
theorem dP_evaluate_31 : decode b_P_evaluate 31 = .ok (.getfield 12, 3) := by decide +kernel
theorem dP_evaluate_34 : decode b_P_evaluate 34 = .ok (.getfield 97, 3) := by decide +kernel
theorem dP_evaluate_37 : decode b_P_evaluate 37 = .ok (.iload_n 1, 1) := by decide +kernel
theorem dP_evaluate_38 : decode b_P_evaluate 38 = .ok (.iaload, 1) := by decide +kernel
theorem dP_evaluate_39 : decode b_P_evaluate 39 = .ok (.istore 6, 2) := by decide +kernel
theorem dP_evaluate_41 : decode b_P_evaluate 41 = .ok (.iload 4, 2) := by decide +kernel
theorem dP_evaluate_43 : decode b_P_evaluate 43 = .ok (.invokestatic 100, 3) := by decide +kernel
theorem dP_evaluate_46 : decode b_P_evaluate 46 = .ok (.ifCond .eq 16, 3) := by decide +kernel
theorem dP_evaluate_49 : decode b_P_evaluate 49 = .ok (.aload_n 0, 1) := by decide +kernel
theorem dP_evaluate_50 : decode b_P_evaluate 50 = .ok (.iload 5, 2) := by decide +kernel
theorem dP_evaluate_52 : decode b_P_evaluate 52 = .ok (.iload_n 2, 1) := by decide +kernel
theorem dP_evaluate_53 : decode b_P_evaluate 53 = .ok (.iload_n 3, 1) := by decide +kernel
theorem dP_evaluate_54 : decode b_P_evaluate 54 = .ok (.iconst 1, 1) := by decide +kernel
theorem dP_evaluate_55 : decode b_P_evaluate 55 = .ok (.iadd, 1) := by decide +kernel
theorem dP_evaluate_56 : decode b_P_evaluate 56 = .ok (.invokevirtual 70, 3) := by decide +kernel
theorem dP_evaluate_59 : decode b_P_evaluate 59 = .ok (.goto 4, 3) := by decide +kernel
theorem dP_evaluate_62 : decode b_P_evaluate 62 = .ok (.iconst 0, 1) := by decide +kernel
theorem dP_evaluate_63 : decode b_P_evaluate 63 = .ok (.istore 7, 2) := by decide +kernel
theorem dP_evaluate_65 : decode b_P_evaluate 65 = .ok (.iload 4, 2) := by decide +kernel
theorem dP_evaluate_67 : decode b_P_evaluate 67 = .ok (.invokestatic 104, 3) := by decide +kernel
theorem dP_evaluate_70 : decode b_P_evaluate 70 = .ok (.ifCond .eq 16, 3) := by decide +kernel
theorem dP_evaluate_73 : decode b_P_evaluate 73 = .ok (.aload_n 0, 1) := by decide +kernel
theorem dP_evaluate_74 : decode b_P_evaluate 74 = .ok (.iload 6, 2) := by decide +kernel
theorem dP_evaluate_76 : decode b_P_evaluate 76 = .ok (.iload_n 2, 1) := by decide +kernel
theorem dP_evaluate_77 : decode b_P_evaluate 77 = .ok (.iload_n 3, 1) := by decide +kernel
theorem dP_evaluate_78 : decode b_P_evaluate 78 = .ok (.iconst 1, 1) := by decide +kernel
theorem dP_evaluate_79 : decode b_P_evaluate 79 = .ok (.iadd, 1) := by decide +kernel
theorem dP_evaluate_80 : decode b_P_evaluate 80 = .ok (.invokevirtual 70, 3) := by decide +kernel
theorem dP_evaluate_83 : decode b_P_evaluate 83 = .ok (.goto 4, 3) := by decide +kernel
theorem dP_evaluate_86 : decode b_P_evaluate 86 = .ok (.iconst 0, 1) := by decide +kernel
theorem dP_evaluate_87 : decode b_P_evaluate 87 = .ok (.istore 8, 2) := by decide +kernel
theorem dP_evaluate_89 : decode b_P_evaluate 89 = .ok (.iload 4, 2) := by decide +kernel
theorem dP_evaluate_91 : decode b_P_evaluate 91 = .ok (.tableswitch 136 0 11 #[61, 72, 136, 136, 136, 136, 85, 136, 136, 136, 97, 112], 61) := by decide +kernel
theorem dP_evaluate_152 : decode b_P_evaluate 152 = .ok (.aload_n 0, 1) := by decide +kernel
theorem dP_evaluate_153 : decode b_P_evaluate 153 = .ok (.getfield 27, 3) := by decide +kernel
theorem dP_evaluate_156 : decode b_P_evaluate 156 = .ok (.iload 5, 2) := by decide +kernel
theorem dP_evaluate_158 : decode b_P_evaluate 158 = .ok (.i2l, 1) := by decide +kernel
theorem dP_evaluate_159 : decode b_P_evaluate 159 = .ok (.invokevirtual 107, 3) := by decide +kernel
theorem dP_evaluate_162 : decode b_P_evaluate 162 = .ok (.ireturn, 1) := by decide +kernel
theorem dP_evaluate_163 : decode b_P_evaluate 163 = .ok (.aload_n 0, 1) := by decide +kernel
theorem dP_evaluate_164 : decode b_P_evaluate 164 = .ok (.getfield 31, 3) := by decide +kernel
theorem dP_evaluate_167 : decode b_P_evaluate 167 = .ok (.iload_n 2, 1) := by decide +kernel
theorem dP_evaluate_168 : decode b_P_evaluate 168 = .ok (.bipush 14, 2) := by decide +kernel
theorem dP_evaluate_170 : decode b_P_evaluate 170 = .ok (.imul, 1) := by decide +kernel
theorem dP_evaluate_171 : decode b_P_evaluate 171 = .ok (.iload 5, 2) := by decide +kernel
theorem dP_evaluate_173 : decode b_P_evaluate 173 = .ok (.iadd, 1) := by decide +kernel
theorem dP_evaluate_174 : decode b_P_evaluate 174 = .ok (.iaload, 1) := by decide +kernel
theorem dP_evaluate_175 : decode b_P_evaluate 175 = .ok (.ireturn, 1) := by decide +kernel
theorem dP_evaluate_176 : decode b_P_evaluate 176 = .ok (.aload_n 0, 1) := by decide +kernel
theorem dP_evaluate_177 : decode b_P_evaluate 177 = .ok (.getfield 27, 3) := by decide +kernel
theorem dP_evaluate_180 : decode b_P_evaluate 180 = .ok (.iload 7, 2) := by decide +kernel
theorem dP_evaluate_182 : decode b_P_evaluate 182 = .ok (.iload 6, 2) := by decide +kernel
theorem dP_evaluate_184 : decode b_P_evaluate 184 = .ok (.invokevirtual 111, 3) := by decide +kernel
theorem dP_evaluate_187 : decode b_P_evaluate 187 = .ok (.ireturn, 1) := by decide +kernel
theorem dP_evaluate_188 : decode b_P_evaluate 188 = .ok (.aload_n 0, 1) := by decide +kernel
theorem dP_evaluate_189 : decode b_P_evaluate 189 = .ok (.getfield 31, 3) := by decide +kernel
theorem dP_evaluate_192 : decode b_P_evaluate 192 = .ok (.aload_n 0, 1) := by decide +kernel
theorem dP_evaluate_193 : decode b_P_evaluate 193 = .ok (.iload_n 2, 1) := by decide +kernel
theorem dP_evaluate_194 : decode b_P_evaluate 194 = .ok (.iload 6, 2) := by decide +kernel
theorem dP_evaluate_196 : decode b_P_evaluate 196 = .ok (.iload 7, 2) := by decide +kernel
theorem dP_evaluate_198 : decode b_P_evaluate 198 = .ok (.invokevirtual 74, 3) := by decide +kernel
theorem dP_evaluate_201 : decode b_P_evaluate 201 = .ok (.iaload, 1) := by decide +kernel
theorem dP_evaluate_202 : decode b_P_evaluate 202 = .ok (.ireturn, 1) := by decide +kernel
theorem dP_evaluate_203 : decode b_P_evaluate 203 = .ok (.aload_n 0, 1) := by decide +kernel
theorem dP_evaluate_204 : decode b_P_evaluate 204 = .ok (.aload_n 0, 1) := by decide +kernel
theorem dP_evaluate_205 : decode b_P_evaluate 205 = .ok (.getfield 12, 3) := by decide +kernel
theorem dP_evaluate_208 : decode b_P_evaluate 208 = .ok (.getfield 115, 3) := by decide +kernel
theorem dP_evaluate_211 : decode b_P_evaluate 211 = .ok (.iload_n 1, 1) := by decide +kernel
theorem dP_evaluate_212 : decode b_P_evaluate 212 = .ok (.iaload, 1) := by decide +kernel
theorem dP_evaluate_213 : decode b_P_evaluate 213 = .ok (.iload 7, 2) := by decide +kernel
theorem dP_evaluate_215 : decode b_P_evaluate 215 = .ok (.iload 8, 2) := by decide +kernel
theorem dP_evaluate_217 : decode b_P_evaluate 217 = .ok (.iload_n 2, 1) := by decide +kernel
theorem dP_evaluate_218 : decode b_P_evaluate 218 = .ok (.iconst 1, 1) := by decide +kernel
theorem dP_evaluate_219 : decode b_P_evaluate 219 = .ok (.iadd, 1) := by decide +kernel
theorem dP_evaluate_220 : decode b_P_evaluate 220 = .ok (.iload_n 3, 1) := by decide +kernel
theorem dP_evaluate_221 : decode b_P_evaluate 221 = .ok (.iconst 1, 1) := by decide +kernel
theorem dP_evaluate_222 : decode b_P_evaluate 222 = .ok (.iadd, 1) := by decide +kernel
theorem dP_evaluate_223 : decode b_P_evaluate 223 = .ok (.invokevirtual 39, 3) := by decide +kernel
theorem dP_evaluate_226 : decode b_P_evaluate 226 = .ok (.ireturn, 1) := by decide +kernel
theorem dP_evaluate_227 : decode b_P_evaluate 227 = .ok (.aload_n 0, 1) := by decide +kernel
theorem dP_evaluate_228 : decode b_P_evaluate 228 = .ok (.iload 4, 2) := by decide +kernel
theorem dP_evaluate_230 : decode b_P_evaluate 230 = .ok (.iload 7, 2) := by decide +kernel
theorem dP_evaluate_232 : decode b_P_evaluate 232 = .ok (.iload 8, 2) := by decide +kernel
theorem dP_evaluate_234 : decode b_P_evaluate 234 = .ok (.invokevirtual 118, 3) := by decide +kernel
theorem dP_evaluate_237 : decode b_P_evaluate 237 = .ok (.ireturn, 1) := by decide +kernel
theorem dP_follow_0 : decode b_P_follow 0 = .ok (.aload_n 0, 1) := by decide +kernel
theorem dP_follow_1 : decode b_P_follow 1 = .ok (.getfield 27, 3) := by decide +kernel
theorem dP_follow_4 : decode b_P_follow 4 = .ok (.lload_n 2, 1) := by decide +kernel
theorem dP_follow_5 : decode b_P_follow 5 = .ok (.lload 4, 2) := by decide +kernel
theorem dP_follow_7 : decode b_P_follow 7 = .ok (.invokevirtual 35, 3) := by decide +kernel
theorem dP_follow_10 : decode b_P_follow 10 = .ok (.aload_n 0, 1) := by decide +kernel
theorem dP_follow_11 : decode b_P_follow 11 = .ok (.iload_n 1, 1) := by decide +kernel
theorem dP_follow_12 : decode b_P_follow 12 = .ok (.iconst 1, 1) := by decide +kernel
theorem dP_follow_13 : decode b_P_follow 13 = .ok (.iconst 2, 1) := by decide +kernel
theorem dP_follow_14 : decode b_P_follow 14 = .ok (.iconst 0, 1) := by decide +kernel
theorem dP_follow_15 : decode b_P_follow 15 = .ok (.iconst 0, 1) := by decide +kernel
theorem dP_follow_16 : decode b_P_follow 16 = .ok (.invokevirtual 39, 3) := by decide +kernel
theorem dP_follow_19 : decode b_P_follow 19 = .ok (.ireturn, 1) := by decide +kernel
theorem dP_init_0 : decode b_P_init 0 = .ok (.aload_n 0, 1) := by decide +kernel
theorem dP_init_1 : decode b_P_init 1 = .ok (.invokespecial 3, 3) := by decide +kernel
theorem dP_init_4 : decode b_P_init 4 = .ok (.aload_n 0, 1) := by decide +kernel
theorem dP_init_5 : decode b_P_init 5 = .ok (.new 9, 3) := by decide +kernel
theorem dP_init_8 : decode b_P_init 8 = .ok (.dup, 1) := by decide +kernel
theorem dP_init_9 : decode b_P_init 9 = .ok (.invokespecial 11, 3) := by decide +kernel
theorem dP_init_12 : decode b_P_init 12 = .ok (.putfield 12, 3) := by decide +kernel
theorem dP_init_15 : decode b_P_init 15 = .ok (.aload_n 0, 1) := by decide +kernel
theorem dP_init_16 : decode b_P_init 16 = .ok (.bipush 8, 2) := by decide +kernel
theorem dP_init_18 : decode b_P_init 18 = .ok (.anewarray 18, 3) := by decide +kernel
theorem dP_init_21 : decode b_P_init 21 = .ok (.putfield 20, 3) := by decide +kernel
theorem dP_init_24 : decode b_P_init 24 = .ok (.aload_n 0, 1) := by decide +kernel
theorem dP_init_25 : decode b_P_init 25 = .ok (.new 24, 3) := by decide +kernel
theorem dP_init_28 : decode b_P_init 28 = .ok (.dup, 1) := by decide +kernel
theorem dP_init_29 : decode b_P_init 29 = .ok (.invokespecial 26, 3) := by decide +kernel
theorem dP_init_32 : decode b_P_init 32 = .ok (.putfield 27, 3) := by decide +kernel
theorem dP_init_35 : decode b_P_init 35 = .ok (.aload_n 0, 1) := by decide +kernel
theorem dP_init_36 : decode b_P_init 36 = .ok (.bipush 112, 2) := by decide +kernel
theorem dP_init_38 : decode b_P_init 38 = .ok (.newarray .int, 2) := by decide +kernel
theorem dP_init_40 : decode b_P_init 40 = .ok (.putfield 31, 3) := by decide +kernel
theorem dP_init_43 : decode b_P_init 43 = .ok (.return_, 1) := by decide +kernel
theorem dP_openInAll_0 : decode b_P_openInAll 0 = .ok (.iconst 0, 1) := by decide +kernel
theorem dP_openInAll_1 : decode b_P_openInAll 1 = .ok (.istore_n 1, 1) := by decide +kernel
theorem dP_openInAll_2 : decode b_P_openInAll 2 = .ok (.iconst 0, 1) := by decide +kernel
theorem dP_openInAll_3 : decode b_P_openInAll 3 = .ok (.istore_n 2, 1) := by decide +kernel
theorem dP_openInAll_4 : decode b_P_openInAll 4 = .ok (.iload_n 2, 1) := by decide +kernel
theorem dP_openInAll_5 : decode b_P_openInAll 5 = .ok (.bipush 8, 2) := by decide +kernel
theorem dP_openInAll_7 : decode b_P_openInAll 7 = .ok (.if_icmp .ge 34, 3) := by decide +kernel
theorem dP_openInAll_10 : decode b_P_openInAll 10 = .ok (.iload_n 1, 1) := by decide +kernel
theorem dP_openInAll_11 : decode b_P_openInAll 11 = .ok (.aload_n 0, 1) := by decide +kernel
theorem dP_openInAll_12 : decode b_P_openInAll 12 = .ok (.getfield 20, 3) := by decide +kernel
theorem dP_openInAll_15 : decode b_P_openInAll 15 = .ok (.iload_n 2, 1) := by decide +kernel
theorem dP_openInAll_16 : decode b_P_openInAll 16 = .ok (.aaload, 1) := by decide +kernel
theorem dP_openInAll_17 : decode b_P_openInAll 17 = .ok (.ifnonnull 7, 3) := by decide +kernel
theorem dP_openInAll_20 : decode b_P_openInAll 20 = .ok (.iconst 0, 1) := by decide +kernel
theorem dP_openInAll_21 : decode b_P_openInAll 21 = .ok (.goto 12, 3) := by decide +kernel
theorem dP_openInAll_24 : decode b_P_openInAll 24 = .ok (.aload_n 0, 1) := by decide +kernel
theorem dP_openInAll_25 : decode b_P_openInAll 25 = .ok (.getfield 20, 3) := by decide +kernel
theorem dP_openInAll_28 : decode b_P_openInAll 28 = .ok (.iload_n 2, 1) := by decide +kernel
theorem dP_openInAll_29 : decode b_P_openInAll 29 = .ok (.aaload, 1) := by decide +kernel
theorem dP_openInAll_30 : decode b_P_openInAll 30 = .ok (.getfield 133, 3) := by decide +kernel
theorem dP_openInAll_33 : decode b_P_openInAll 33 = .ok (.iadd, 1) := by decide +kernel
theorem dP_openInAll_34 : decode b_P_openInAll 34 = .ok (.istore_n 1, 1) := by decide +kernel
theorem dP_openInAll_35 : decode b_P_openInAll 35 = .ok (.iinc 2 1, 3) := by decide +kernel
theorem dP_openInAll_38 : decode b_P_openInAll 38 = .ok (.goto (-34), 3) := by decide +kernel
theorem dP_openInAll_41 : decode b_P_openInAll 41 = .ok (.iload_n 1, 1) := by decide +kernel
theorem dP_openInAll_42 : decode b_P_openInAll 42 = .ok (.ireturn, 1) := by decide +kernel
theorem dP_statementsInAll_0 : decode b_P_statementsInAll 0 = .ok (.iconst 0, 1) := by decide +kernel
theorem dP_statementsInAll_1 : decode b_P_statementsInAll 1 = .ok (.istore_n 1, 1) := by decide +kernel
theorem dP_statementsInAll_2 : decode b_P_statementsInAll 2 = .ok (.iconst 0, 1) := by decide +kernel
theorem dP_statementsInAll_3 : decode b_P_statementsInAll 3 = .ok (.istore_n 2, 1) := by decide +kernel
theorem dP_statementsInAll_4 : decode b_P_statementsInAll 4 = .ok (.iload_n 2, 1) := by decide +kernel
theorem dP_statementsInAll_5 : decode b_P_statementsInAll 5 = .ok (.bipush 8, 2) := by decide +kernel
theorem dP_statementsInAll_7 : decode b_P_statementsInAll 7 = .ok (.if_icmp .ge 34, 3) := by decide +kernel
theorem dP_statementsInAll_10 : decode b_P_statementsInAll 10 = .ok (.iload_n 1, 1) := by decide +kernel
theorem dP_statementsInAll_11 : decode b_P_statementsInAll 11 = .ok (.aload_n 0, 1) := by decide +kernel
theorem dP_statementsInAll_12 : decode b_P_statementsInAll 12 = .ok (.getfield 20, 3) := by decide +kernel
theorem dP_statementsInAll_15 : decode b_P_statementsInAll 15 = .ok (.iload_n 2, 1) := by decide +kernel
theorem dP_statementsInAll_16 : decode b_P_statementsInAll 16 = .ok (.aaload, 1) := by decide +kernel
theorem dP_statementsInAll_17 : decode b_P_statementsInAll 17 = .ok (.ifnonnull 7, 3) := by decide +kernel
theorem dP_statementsInAll_20 : decode b_P_statementsInAll 20 = .ok (.iconst 0, 1) := by decide +kernel
theorem dP_statementsInAll_21 : decode b_P_statementsInAll 21 = .ok (.goto 12, 3) := by decide +kernel
theorem dP_statementsInAll_24 : decode b_P_statementsInAll 24 = .ok (.aload_n 0, 1) := by decide +kernel
theorem dP_statementsInAll_25 : decode b_P_statementsInAll 25 = .ok (.getfield 20, 3) := by decide +kernel
theorem dP_statementsInAll_28 : decode b_P_statementsInAll 28 = .ok (.iload_n 2, 1) := by decide +kernel
theorem dP_statementsInAll_29 : decode b_P_statementsInAll 29 = .ok (.aaload, 1) := by decide +kernel
theorem dP_statementsInAll_30 : decode b_P_statementsInAll 30 = .ok (.getfield 49, 3) := by decide +kernel
theorem dP_statementsInAll_33 : decode b_P_statementsInAll 33 = .ok (.iadd, 1) := by decide +kernel
theorem dP_statementsInAll_34 : decode b_P_statementsInAll 34 = .ok (.istore_n 1, 1) := by decide +kernel
theorem dP_statementsInAll_35 : decode b_P_statementsInAll 35 = .ok (.iinc 2 1, 3) := by decide +kernel
theorem dP_statementsInAll_38 : decode b_P_statementsInAll 38 = .ok (.goto (-34), 3) := by decide +kernel
theorem dP_statementsInAll_41 : decode b_P_statementsInAll 41 = .ok (.iload_n 1, 1) := by decide +kernel
theorem dP_statementsInAll_42 : decode b_P_statementsInAll 42 = .ok (.ireturn, 1) := by decide +kernel
theorem dT_add_0 : decode b_T_add 0 = .ok (.aload_n 0, 1) := by decide +kernel
theorem dT_add_1 : decode b_T_add 1 = .ok (.getfield 37, 3) := by decide +kernel
theorem dT_add_4 : decode b_T_add 4 = .ok (.bipush 64, 2) := by decide +kernel
theorem dT_add_6 : decode b_T_add 6 = .ok (.if_icmp .lt 5, 3) := by decide +kernel
theorem dT_add_9 : decode b_T_add 9 = .ok (.iconst 0, 1) := by decide +kernel
theorem dT_add_10 : decode b_T_add 10 = .ok (.ireturn, 1) := by decide +kernel
theorem dT_add_11 : decode b_T_add 11 = .ok (.aload_n 0, 1) := by decide +kernel
theorem dT_add_12 : decode b_T_add 12 = .ok (.getfield 37, 3) := by decide +kernel
theorem dT_add_15 : decode b_T_add 15 = .ok (.istore 6, 2) := by decide +kernel
theorem dT_add_17 : decode b_T_add 17 = .ok (.aload_n 0, 1) := by decide +kernel
theorem dT_add_18 : decode b_T_add 18 = .ok (.getfield 11, 3) := by decide +kernel
theorem dT_add_21 : decode b_T_add 21 = .ok (.iload 6, 2) := by decide +kernel
theorem dT_add_23 : decode b_T_add 23 = .ok (.iload_n 1, 1) := by decide +kernel
theorem dT_add_24 : decode b_T_add 24 = .ok (.iastore, 1) := by decide +kernel
theorem dT_add_25 : decode b_T_add 25 = .ok (.aload_n 0, 1) := by decide +kernel
theorem dT_add_26 : decode b_T_add 26 = .ok (.getfield 15, 3) := by decide +kernel
theorem dT_add_29 : decode b_T_add 29 = .ok (.iload 6, 2) := by decide +kernel
theorem dT_add_31 : decode b_T_add 31 = .ok (.iload_n 2, 1) := by decide +kernel
theorem dT_add_32 : decode b_T_add 32 = .ok (.iastore, 1) := by decide +kernel
theorem dT_add_33 : decode b_T_add 33 = .ok (.aload_n 0, 1) := by decide +kernel
theorem dT_add_34 : decode b_T_add 34 = .ok (.getfield 18, 3) := by decide +kernel
theorem dT_add_37 : decode b_T_add 37 = .ok (.iload 6, 2) := by decide +kernel
theorem dT_add_39 : decode b_T_add 39 = .ok (.iload_n 3, 1) := by decide +kernel
theorem dT_add_40 : decode b_T_add 40 = .ok (.iastore, 1) := by decide +kernel
theorem dT_add_41 : decode b_T_add 41 = .ok (.aload_n 0, 1) := by decide +kernel
theorem dT_add_42 : decode b_T_add 42 = .ok (.getfield 21, 3) := by decide +kernel
theorem dT_add_45 : decode b_T_add 45 = .ok (.iload 6, 2) := by decide +kernel
theorem dT_add_47 : decode b_T_add 47 = .ok (.lload 4, 2) := by decide +kernel
theorem dT_add_49 : decode b_T_add 49 = .ok (.lastore, 1) := by decide +kernel
theorem dT_add_50 : decode b_T_add 50 = .ok (.aload_n 0, 1) := by decide +kernel
theorem dT_add_51 : decode b_T_add 51 = .ok (.dup, 1) := by decide +kernel
theorem dT_add_52 : decode b_T_add 52 = .ok (.getfield 37, 3) := by decide +kernel
theorem dT_add_55 : decode b_T_add 55 = .ok (.iconst 1, 1) := by decide +kernel
theorem dT_add_56 : decode b_T_add 56 = .ok (.iadd, 1) := by decide +kernel
theorem dT_add_57 : decode b_T_add 57 = .ok (.putfield 37, 3) := by decide +kernel
theorem dT_add_60 : decode b_T_add 60 = .ok (.iload 6, 2) := by decide +kernel
theorem dT_add_62 : decode b_T_add 62 = .ok (.ireturn, 1) := by decide +kernel
theorem dT_begin_0 : decode b_T_begin 0 = .ok (.aload_n 0, 1) := by decide +kernel
theorem dT_begin_1 : decode b_T_begin 1 = .ok (.iconst 0, 1) := by decide +kernel
theorem dT_begin_2 : decode b_T_begin 2 = .ok (.putfield 37, 3) := by decide +kernel
theorem dT_begin_5 : decode b_T_begin 5 = .ok (.aload_n 0, 1) := by decide +kernel
theorem dT_begin_6 : decode b_T_begin 6 = .ok (.iconst 0, 1) := by decide +kernel
theorem dT_begin_7 : decode b_T_begin 7 = .ok (.iconst 0, 1) := by decide +kernel
theorem dT_begin_8 : decode b_T_begin 8 = .ok (.iconst 0, 1) := by decide +kernel
theorem dT_begin_9 : decode b_T_begin 9 = .ok (.lconst 0, 1) := by decide +kernel
theorem dT_begin_10 : decode b_T_begin 10 = .ok (.invokevirtual 41, 3) := by decide +kernel
theorem dT_begin_13 : decode b_T_begin 13 = .ok (.pop, 1) := by decide +kernel
theorem dT_begin_14 : decode b_T_begin 14 = .ok (.aload_n 0, 1) := by decide +kernel
theorem dT_begin_15 : decode b_T_begin 15 = .ok (.iconst 0, 1) := by decide +kernel
theorem dT_begin_16 : decode b_T_begin 16 = .ok (.iconst 0, 1) := by decide +kernel
theorem dT_begin_17 : decode b_T_begin 17 = .ok (.iconst 0, 1) := by decide +kernel
theorem dT_begin_18 : decode b_T_begin 18 = .ok (.lload_n 1, 1) := by decide +kernel
theorem dT_begin_19 : decode b_T_begin 19 = .ok (.invokevirtual 41, 3) := by decide +kernel
theorem dT_begin_22 : decode b_T_begin 22 = .ok (.pop, 1) := by decide +kernel
theorem dT_begin_23 : decode b_T_begin 23 = .ok (.aload_n 0, 1) := by decide +kernel
theorem dT_begin_24 : decode b_T_begin 24 = .ok (.iconst 0, 1) := by decide +kernel
theorem dT_begin_25 : decode b_T_begin 25 = .ok (.iconst 0, 1) := by decide +kernel
theorem dT_begin_26 : decode b_T_begin 26 = .ok (.iconst 0, 1) := by decide +kernel
theorem dT_begin_27 : decode b_T_begin 27 = .ok (.lload_n 3, 1) := by decide +kernel
theorem dT_begin_28 : decode b_T_begin 28 = .ok (.invokevirtual 41, 3) := by decide +kernel
theorem dT_begin_31 : decode b_T_begin 31 = .ok (.pop, 1) := by decide +kernel
theorem dT_begin_32 : decode b_T_begin 32 = .ok (.return_, 1) := by decide +kernel
theorem dT_constant_0 : decode b_T_constant 0 = .ok (.aload_n 0, 1) := by decide +kernel
theorem dT_constant_1 : decode b_T_constant 1 = .ok (.iconst 0, 1) := by decide +kernel
theorem dT_constant_2 : decode b_T_constant 2 = .ok (.iconst 0, 1) := by decide +kernel
theorem dT_constant_3 : decode b_T_constant 3 = .ok (.iconst 0, 1) := by decide +kernel
theorem dT_constant_4 : decode b_T_constant 4 = .ok (.lload_n 1, 1) := by decide +kernel
theorem dT_constant_5 : decode b_T_constant 5 = .ok (.invokevirtual 41, 3) := by decide +kernel
theorem dT_constant_8 : decode b_T_constant 8 = .ok (.ireturn, 1) := by decide +kernel
theorem dT_difference_0 : decode b_T_difference 0 = .ok (.aload_n 0, 1) := by decide +kernel
theorem dT_difference_1 : decode b_T_difference 1 = .ok (.iconst 2, 1) := by decide +kernel
theorem dT_difference_2 : decode b_T_difference 2 = .ok (.iload_n 1, 1) := by decide +kernel
theorem dT_difference_3 : decode b_T_difference 3 = .ok (.iload_n 2, 1) := by decide +kernel
theorem dT_difference_4 : decode b_T_difference 4 = .ok (.aload_n 0, 1) := by decide +kernel
theorem dT_difference_5 : decode b_T_difference 5 = .ok (.getfield 21, 3) := by decide +kernel
theorem dT_difference_8 : decode b_T_difference 8 = .ok (.iload_n 1, 1) := by decide +kernel
theorem dT_difference_9 : decode b_T_difference 9 = .ok (.laload, 1) := by decide +kernel
theorem dT_difference_10 : decode b_T_difference 10 = .ok (.aload_n 0, 1) := by decide +kernel
theorem dT_difference_11 : decode b_T_difference 11 = .ok (.getfield 21, 3) := by decide +kernel
theorem dT_difference_14 : decode b_T_difference 14 = .ok (.iload_n 2, 1) := by decide +kernel
theorem dT_difference_15 : decode b_T_difference 15 = .ok (.laload, 1) := by decide +kernel
theorem dT_difference_16 : decode b_T_difference 16 = .ok (.lsub, 1) := by decide +kernel
theorem dT_difference_17 : decode b_T_difference 17 = .ok (.invokevirtual 41, 3) := by decide +kernel
theorem dT_difference_20 : decode b_T_difference 20 = .ok (.ireturn, 1) := by decide +kernel
theorem dT_init_0 : decode b_T_init 0 = .ok (.aload_n 0, 1) := by decide +kernel
theorem dT_init_1 : decode b_T_init 1 = .ok (.invokespecial 3, 3) := by decide +kernel
theorem dT_init_4 : decode b_T_init 4 = .ok (.aload_n 0, 1) := by decide +kernel
theorem dT_init_5 : decode b_T_init 5 = .ok (.bipush 64, 2) := by decide +kernel
theorem dT_init_7 : decode b_T_init 7 = .ok (.newarray .int, 2) := by decide +kernel
theorem dT_init_9 : decode b_T_init 9 = .ok (.putfield 11, 3) := by decide +kernel
theorem dT_init_12 : decode b_T_init 12 = .ok (.aload_n 0, 1) := by decide +kernel
theorem dT_init_13 : decode b_T_init 13 = .ok (.bipush 64, 2) := by decide +kernel
theorem dT_init_15 : decode b_T_init 15 = .ok (.newarray .int, 2) := by decide +kernel
theorem dT_init_17 : decode b_T_init 17 = .ok (.putfield 15, 3) := by decide +kernel
theorem dT_init_20 : decode b_T_init 20 = .ok (.aload_n 0, 1) := by decide +kernel
theorem dT_init_21 : decode b_T_init 21 = .ok (.bipush 64, 2) := by decide +kernel
theorem dT_init_23 : decode b_T_init 23 = .ok (.newarray .int, 2) := by decide +kernel
theorem dT_init_25 : decode b_T_init 25 = .ok (.putfield 18, 3) := by decide +kernel
theorem dT_init_28 : decode b_T_init 28 = .ok (.aload_n 0, 1) := by decide +kernel
theorem dT_init_29 : decode b_T_init 29 = .ok (.bipush 64, 2) := by decide +kernel
theorem dT_init_31 : decode b_T_init 31 = .ok (.newarray .long, 2) := by decide +kernel
theorem dT_init_33 : decode b_T_init 33 = .ok (.putfield 21, 3) := by decide +kernel
theorem dT_init_36 : decode b_T_init 36 = .ok (.aload_n 0, 1) := by decide +kernel
theorem dT_init_37 : decode b_T_init 37 = .ok (.bipush 64, 2) := by decide +kernel
theorem dT_init_39 : decode b_T_init 39 = .ok (.newarray .long, 2) := by decide +kernel
theorem dT_init_41 : decode b_T_init 41 = .ok (.putfield 25, 3) := by decide +kernel
theorem dT_init_44 : decode b_T_init 44 = .ok (.aload_n 0, 1) := by decide +kernel
theorem dT_init_45 : decode b_T_init 45 = .ok (.bipush 64, 2) := by decide +kernel
theorem dT_init_47 : decode b_T_init 47 = .ok (.newarray .long, 2) := by decide +kernel
theorem dT_init_49 : decode b_T_init 49 = .ok (.putfield 28, 3) := by decide +kernel
theorem dT_init_52 : decode b_T_init 52 = .ok (.aload_n 0, 1) := by decide +kernel
theorem dT_init_53 : decode b_T_init 53 = .ok (.bipush 64, 2) := by decide +kernel
theorem dT_init_55 : decode b_T_init 55 = .ok (.newarray .long, 2) := by decide +kernel
theorem dT_init_57 : decode b_T_init 57 = .ok (.putfield 31, 3) := by decide +kernel
theorem dT_init_60 : decode b_T_init 60 = .ok (.aload_n 0, 1) := by decide +kernel
theorem dT_init_61 : decode b_T_init 61 = .ok (.bipush 64, 2) := by decide +kernel
theorem dT_init_63 : decode b_T_init 63 = .ok (.newarray .long, 2) := by decide +kernel
theorem dT_init_65 : decode b_T_init 65 = .ok (.putfield 34, 3) := by decide +kernel
theorem dT_init_68 : decode b_T_init 68 = .ok (.return_, 1) := by decide +kernel
theorem dT_magnitude_0 : decode b_T_magnitude 0 = .ok (.aload_n 0, 1) := by decide +kernel
theorem dT_magnitude_1 : decode b_T_magnitude 1 = .ok (.getfield 21, 3) := by decide +kernel
theorem dT_magnitude_4 : decode b_T_magnitude 4 = .ok (.iload_n 1, 1) := by decide +kernel
theorem dT_magnitude_5 : decode b_T_magnitude 5 = .ok (.laload, 1) := by decide +kernel
theorem dT_magnitude_6 : decode b_T_magnitude 6 = .ok (.lconst 0, 1) := by decide +kernel
theorem dT_magnitude_7 : decode b_T_magnitude 7 = .ok (.lcmp, 1) := by decide +kernel
theorem dT_magnitude_8 : decode b_T_magnitude 8 = .ok (.ifCond .ne 5, 3) := by decide +kernel
theorem dT_magnitude_11 : decode b_T_magnitude 11 = .ok (.iconst 0, 1) := by decide +kernel
theorem dT_magnitude_12 : decode b_T_magnitude 12 = .ok (.ireturn, 1) := by decide +kernel
theorem dT_magnitude_13 : decode b_T_magnitude 13 = .ok (.aload_n 0, 1) := by decide +kernel
theorem dT_magnitude_14 : decode b_T_magnitude 14 = .ok (.getfield 21, 3) := by decide +kernel
theorem dT_magnitude_17 : decode b_T_magnitude 17 = .ok (.iload_n 1, 1) := by decide +kernel
theorem dT_magnitude_18 : decode b_T_magnitude 18 = .ok (.laload, 1) := by decide +kernel
theorem dT_magnitude_19 : decode b_T_magnitude 19 = .ok (.lconst 0, 1) := by decide +kernel
theorem dT_magnitude_20 : decode b_T_magnitude 20 = .ok (.lcmp, 1) := by decide +kernel
theorem dT_magnitude_21 : decode b_T_magnitude 21 = .ok (.ifCond .ge 12, 3) := by decide +kernel
theorem dT_magnitude_24 : decode b_T_magnitude 24 = .ok (.aload_n 0, 1) := by decide +kernel
theorem dT_magnitude_25 : decode b_T_magnitude 25 = .ok (.iconst 0, 1) := by decide +kernel
theorem dT_magnitude_26 : decode b_T_magnitude 26 = .ok (.iload_n 1, 1) := by decide +kernel
theorem dT_magnitude_27 : decode b_T_magnitude 27 = .ok (.invokevirtual 53, 3) := by decide +kernel
theorem dT_magnitude_30 : decode b_T_magnitude 30 = .ok (.goto 4, 3) := by decide +kernel
theorem dT_magnitude_33 : decode b_T_magnitude 33 = .ok (.iload_n 1, 1) := by decide +kernel
theorem dT_magnitude_34 : decode b_T_magnitude 34 = .ok (.ireturn, 1) := by decide +kernel
theorem dT_power_0 : decode b_T_power 0 = .ok (.iload_n 2, 1) := by decide +kernel
theorem dT_power_1 : decode b_T_power 1 = .ok (.ifCond .ne 9, 3) := by decide +kernel
theorem dT_power_4 : decode b_T_power 4 = .ok (.aload_n 0, 1) := by decide +kernel
theorem dT_power_5 : decode b_T_power 5 = .ok (.lconst 1, 1) := by decide +kernel
theorem dT_power_6 : decode b_T_power 6 = .ok (.invokevirtual 45, 3) := by decide +kernel
theorem dT_power_9 : decode b_T_power 9 = .ok (.ireturn, 1) := by decide +kernel
theorem dT_power_10 : decode b_T_power 10 = .ok (.iload_n 1, 1) := by decide +kernel
theorem dT_power_11 : decode b_T_power 11 = .ok (.istore_n 3, 1) := by decide +kernel
theorem dT_power_12 : decode b_T_power 12 = .ok (.iconst 1, 1) := by decide +kernel
theorem dT_power_13 : decode b_T_power 13 = .ok (.istore 4, 2) := by decide +kernel
theorem dT_power_15 : decode b_T_power 15 = .ok (.iload 4, 2) := by decide +kernel
theorem dT_power_17 : decode b_T_power 17 = .ok (.iload_n 2, 1) := by decide +kernel
theorem dT_power_18 : decode b_T_power 18 = .ok (.if_icmp .ge 16, 3) := by decide +kernel
theorem dT_power_21 : decode b_T_power 21 = .ok (.aload_n 0, 1) := by decide +kernel
theorem dT_power_22 : decode b_T_power 22 = .ok (.iload_n 3, 1) := by decide +kernel
theorem dT_power_23 : decode b_T_power 23 = .ok (.iload_n 1, 1) := by decide +kernel
theorem dT_power_24 : decode b_T_power 24 = .ok (.invokevirtual 49, 3) := by decide +kernel
theorem dT_power_27 : decode b_T_power 27 = .ok (.istore_n 3, 1) := by decide +kernel
theorem dT_power_28 : decode b_T_power 28 = .ok (.iinc 4 1, 3) := by decide +kernel
theorem dT_power_31 : decode b_T_power 31 = .ok (.goto (-16), 3) := by decide +kernel
theorem dT_power_34 : decode b_T_power 34 = .ok (.iload_n 3, 1) := by decide +kernel
theorem dT_power_35 : decode b_T_power 35 = .ok (.ireturn, 1) := by decide +kernel
theorem dT_product_0 : decode b_T_product 0 = .ok (.aload_n 0, 1) := by decide +kernel
theorem dT_product_1 : decode b_T_product 1 = .ok (.iconst 3, 1) := by decide +kernel
theorem dT_product_2 : decode b_T_product 2 = .ok (.iload_n 1, 1) := by decide +kernel
theorem dT_product_3 : decode b_T_product 3 = .ok (.iload_n 2, 1) := by decide +kernel
theorem dT_product_4 : decode b_T_product 4 = .ok (.aload_n 0, 1) := by decide +kernel
theorem dT_product_5 : decode b_T_product 5 = .ok (.getfield 21, 3) := by decide +kernel
theorem dT_product_8 : decode b_T_product 8 = .ok (.iload_n 1, 1) := by decide +kernel
theorem dT_product_9 : decode b_T_product 9 = .ok (.laload, 1) := by decide +kernel
theorem dT_product_10 : decode b_T_product 10 = .ok (.aload_n 0, 1) := by decide +kernel
theorem dT_product_11 : decode b_T_product 11 = .ok (.getfield 21, 3) := by decide +kernel
theorem dT_product_14 : decode b_T_product 14 = .ok (.iload_n 2, 1) := by decide +kernel
theorem dT_product_15 : decode b_T_product 15 = .ok (.laload, 1) := by decide +kernel
theorem dT_product_16 : decode b_T_product 16 = .ok (.lmul, 1) := by decide +kernel
theorem dT_product_17 : decode b_T_product 17 = .ok (.invokevirtual 41, 3) := by decide +kernel
theorem dT_product_20 : decode b_T_product 20 = .ok (.ireturn, 1) := by decide +kernel
theorem dT_slope_0 : decode b_T_slope 0 = .ok (.aload_n 0, 1) := by decide +kernel
theorem dT_slope_1 : decode b_T_slope 1 = .ok (.aload_n 0, 1) := by decide +kernel
theorem dT_slope_2 : decode b_T_slope 2 = .ok (.getfield 25, 3) := by decide +kernel
theorem dT_slope_5 : decode b_T_slope 5 = .ok (.iload_n 2, 1) := by decide +kernel
theorem dT_slope_6 : decode b_T_slope 6 = .ok (.invokevirtual 56, 3) := by decide +kernel
theorem dT_slope_9 : decode b_T_slope 9 = .ok (.aload_n 0, 1) := by decide +kernel
theorem dT_slope_10 : decode b_T_slope 10 = .ok (.getfield 25, 3) := by decide +kernel
theorem dT_slope_13 : decode b_T_slope 13 = .ok (.iload_n 1, 1) := by decide +kernel
theorem dT_slope_14 : decode b_T_slope 14 = .ok (.laload, 1) := by decide +kernel
theorem dT_slope_15 : decode b_T_slope 15 = .ok (.lreturn, 1) := by decide +kernel
theorem dT_slopeBackwards_0 : decode b_T_slopeBackwards 0 = .ok (.aload_n 0, 1) := by decide +kernel
theorem dT_slopeBackwards_1 : decode b_T_slopeBackwards 1 = .ok (.getfield 34, 3) := by decide +kernel
theorem dT_slopeBackwards_4 : decode b_T_slopeBackwards 4 = .ok (.lconst 0, 1) := by decide +kernel
theorem dT_slopeBackwards_5 : decode b_T_slopeBackwards 5 = .ok (.invokestatic 64, 3) := by decide +kernel
theorem dT_slopeBackwards_8 : decode b_T_slopeBackwards 8 = .ok (.aload_n 0, 1) := by decide +kernel
theorem dT_slopeBackwards_9 : decode b_T_slopeBackwards 9 = .ok (.getfield 34, 3) := by decide +kernel
theorem dT_slopeBackwards_12 : decode b_T_slopeBackwards 12 = .ok (.iload_n 1, 1) := by decide +kernel
theorem dT_slopeBackwards_13 : decode b_T_slopeBackwards 13 = .ok (.lconst 1, 1) := by decide +kernel
theorem dT_slopeBackwards_14 : decode b_T_slopeBackwards 14 = .ok (.lastore, 1) := by decide +kernel
theorem dT_slopeBackwards_15 : decode b_T_slopeBackwards 15 = .ok (.aload_n 0, 1) := by decide +kernel
theorem dT_slopeBackwards_16 : decode b_T_slopeBackwards 16 = .ok (.getfield 37, 3) := by decide +kernel
theorem dT_slopeBackwards_19 : decode b_T_slopeBackwards 19 = .ok (.iconst 1, 1) := by decide +kernel
theorem dT_slopeBackwards_20 : decode b_T_slopeBackwards 20 = .ok (.isub, 1) := by decide +kernel
theorem dT_slopeBackwards_21 : decode b_T_slopeBackwards 21 = .ok (.istore_n 3, 1) := by decide +kernel
theorem dT_slopeBackwards_22 : decode b_T_slopeBackwards 22 = .ok (.iload_n 3, 1) := by decide +kernel
theorem dT_slopeBackwards_23 : decode b_T_slopeBackwards 23 = .ok (.ifCond .lt 180, 3) := by decide +kernel
theorem dT_slopeBackwards_26 : decode b_T_slopeBackwards 26 = .ok (.aload_n 0, 1) := by decide +kernel
theorem dT_slopeBackwards_27 : decode b_T_slopeBackwards 27 = .ok (.getfield 15, 3) := by decide +kernel
theorem dT_slopeBackwards_30 : decode b_T_slopeBackwards 30 = .ok (.iload_n 3, 1) := by decide +kernel
theorem dT_slopeBackwards_31 : decode b_T_slopeBackwards 31 = .ok (.iaload, 1) := by decide +kernel
theorem dT_slopeBackwards_32 : decode b_T_slopeBackwards 32 = .ok (.istore 4, 2) := by decide +kernel
theorem dT_slopeBackwards_34 : decode b_T_slopeBackwards 34 = .ok (.aload_n 0, 1) := by decide +kernel
theorem dT_slopeBackwards_35 : decode b_T_slopeBackwards 35 = .ok (.getfield 18, 3) := by decide +kernel
theorem dT_slopeBackwards_38 : decode b_T_slopeBackwards 38 = .ok (.iload_n 3, 1) := by decide +kernel
theorem dT_slopeBackwards_39 : decode b_T_slopeBackwards 39 = .ok (.iaload, 1) := by decide +kernel
theorem dT_slopeBackwards_40 : decode b_T_slopeBackwards 40 = .ok (.istore 5, 2) := by decide +kernel
theorem dT_slopeBackwards_42 : decode b_T_slopeBackwards 42 = .ok (.aload_n 0, 1) := by decide +kernel
theorem dT_slopeBackwards_43 : decode b_T_slopeBackwards 43 = .ok (.getfield 11, 3) := by decide +kernel
theorem dT_slopeBackwards_46 : decode b_T_slopeBackwards 46 = .ok (.iload_n 3, 1) := by decide +kernel
theorem dT_slopeBackwards_47 : decode b_T_slopeBackwards 47 = .ok (.iaload, 1) := by decide +kernel
theorem dT_slopeBackwards_48 : decode b_T_slopeBackwards 48 = .ok (.tableswitch 149 1 3 #[28, 63, 98], 28) := by decide +kernel
theorem dT_slopeBackwards_76 : decode b_T_slopeBackwards 76 = .ok (.aload_n 0, 1) := by decide +kernel
theorem dT_slopeBackwards_77 : decode b_T_slopeBackwards 77 = .ok (.getfield 34, 3) := by decide +kernel
theorem dT_slopeBackwards_80 : decode b_T_slopeBackwards 80 = .ok (.iload 4, 2) := by decide +kernel
theorem dT_slopeBackwards_82 : decode b_T_slopeBackwards 82 = .ok (.dup2, 1) := by decide +kernel
theorem dT_slopeBackwards_83 : decode b_T_slopeBackwards 83 = .ok (.laload, 1) := by decide +kernel
theorem dT_slopeBackwards_84 : decode b_T_slopeBackwards 84 = .ok (.aload_n 0, 1) := by decide +kernel
theorem dT_slopeBackwards_85 : decode b_T_slopeBackwards 85 = .ok (.getfield 34, 3) := by decide +kernel
theorem dT_slopeBackwards_88 : decode b_T_slopeBackwards 88 = .ok (.iload_n 3, 1) := by decide +kernel
theorem dT_slopeBackwards_89 : decode b_T_slopeBackwards 89 = .ok (.laload, 1) := by decide +kernel
theorem dT_slopeBackwards_90 : decode b_T_slopeBackwards 90 = .ok (.ladd, 1) := by decide +kernel
theorem dT_slopeBackwards_91 : decode b_T_slopeBackwards 91 = .ok (.lastore, 1) := by decide +kernel
theorem dT_slopeBackwards_92 : decode b_T_slopeBackwards 92 = .ok (.aload_n 0, 1) := by decide +kernel
theorem dT_slopeBackwards_93 : decode b_T_slopeBackwards 93 = .ok (.getfield 34, 3) := by decide +kernel
theorem dT_slopeBackwards_96 : decode b_T_slopeBackwards 96 = .ok (.iload 5, 2) := by decide +kernel
theorem dT_slopeBackwards_98 : decode b_T_slopeBackwards 98 = .ok (.dup2, 1) := by decide +kernel
theorem dT_slopeBackwards_99 : decode b_T_slopeBackwards 99 = .ok (.laload, 1) := by decide +kernel
theorem dT_slopeBackwards_100 : decode b_T_slopeBackwards 100 = .ok (.aload_n 0, 1) := by decide +kernel
theorem dT_slopeBackwards_101 : decode b_T_slopeBackwards 101 = .ok (.getfield 34, 3) := by decide +kernel
theorem dT_slopeBackwards_104 : decode b_T_slopeBackwards 104 = .ok (.iload_n 3, 1) := by decide +kernel
theorem dT_slopeBackwards_105 : decode b_T_slopeBackwards 105 = .ok (.laload, 1) := by decide +kernel
theorem dT_slopeBackwards_106 : decode b_T_slopeBackwards 106 = .ok (.ladd, 1) := by decide +kernel
theorem dT_slopeBackwards_107 : decode b_T_slopeBackwards 107 = .ok (.lastore, 1) := by decide +kernel
theorem dT_slopeBackwards_108 : decode b_T_slopeBackwards 108 = .ok (.goto 89, 3) := by decide +kernel
theorem dT_slopeBackwards_111 : decode b_T_slopeBackwards 111 = .ok (.aload_n 0, 1) := by decide +kernel
theorem dT_slopeBackwards_112 : decode b_T_slopeBackwards 112 = .ok (.getfield 34, 3) := by decide +kernel
theorem dT_slopeBackwards_115 : decode b_T_slopeBackwards 115 = .ok (.iload 4, 2) := by decide +kernel
theorem dT_slopeBackwards_117 : decode b_T_slopeBackwards 117 = .ok (.dup2, 1) := by decide +kernel
theorem dT_slopeBackwards_118 : decode b_T_slopeBackwards 118 = .ok (.laload, 1) := by decide +kernel
theorem dT_slopeBackwards_119 : decode b_T_slopeBackwards 119 = .ok (.aload_n 0, 1) := by decide +kernel
theorem dT_slopeBackwards_120 : decode b_T_slopeBackwards 120 = .ok (.getfield 34, 3) := by decide +kernel
theorem dT_slopeBackwards_123 : decode b_T_slopeBackwards 123 = .ok (.iload_n 3, 1) := by decide +kernel
theorem dT_slopeBackwards_124 : decode b_T_slopeBackwards 124 = .ok (.laload, 1) := by decide +kernel
theorem dT_slopeBackwards_125 : decode b_T_slopeBackwards 125 = .ok (.ladd, 1) := by decide +kernel
theorem dT_slopeBackwards_126 : decode b_T_slopeBackwards 126 = .ok (.lastore, 1) := by decide +kernel
theorem dT_slopeBackwards_127 : decode b_T_slopeBackwards 127 = .ok (.aload_n 0, 1) := by decide +kernel
theorem dT_slopeBackwards_128 : decode b_T_slopeBackwards 128 = .ok (.getfield 34, 3) := by decide +kernel
theorem dT_slopeBackwards_131 : decode b_T_slopeBackwards 131 = .ok (.iload 5, 2) := by decide +kernel
theorem dT_slopeBackwards_133 : decode b_T_slopeBackwards 133 = .ok (.dup2, 1) := by decide +kernel
theorem dT_slopeBackwards_134 : decode b_T_slopeBackwards 134 = .ok (.laload, 1) := by decide +kernel
theorem dT_slopeBackwards_135 : decode b_T_slopeBackwards 135 = .ok (.aload_n 0, 1) := by decide +kernel
theorem dT_slopeBackwards_136 : decode b_T_slopeBackwards 136 = .ok (.getfield 34, 3) := by decide +kernel
theorem dT_slopeBackwards_139 : decode b_T_slopeBackwards 139 = .ok (.iload_n 3, 1) := by decide +kernel
theorem dT_slopeBackwards_140 : decode b_T_slopeBackwards 140 = .ok (.laload, 1) := by decide +kernel
theorem dT_slopeBackwards_141 : decode b_T_slopeBackwards 141 = .ok (.lsub, 1) := by decide +kernel
theorem dT_slopeBackwards_142 : decode b_T_slopeBackwards 142 = .ok (.lastore, 1) := by decide +kernel
theorem dT_slopeBackwards_143 : decode b_T_slopeBackwards 143 = .ok (.goto 54, 3) := by decide +kernel
theorem dT_slopeBackwards_146 : decode b_T_slopeBackwards 146 = .ok (.aload_n 0, 1) := by decide +kernel
theorem dT_slopeBackwards_147 : decode b_T_slopeBackwards 147 = .ok (.getfield 34, 3) := by decide +kernel
theorem dT_slopeBackwards_150 : decode b_T_slopeBackwards 150 = .ok (.iload 4, 2) := by decide +kernel
theorem dT_slopeBackwards_152 : decode b_T_slopeBackwards 152 = .ok (.dup2, 1) := by decide +kernel
theorem dT_slopeBackwards_153 : decode b_T_slopeBackwards 153 = .ok (.laload, 1) := by decide +kernel
theorem dT_slopeBackwards_154 : decode b_T_slopeBackwards 154 = .ok (.aload_n 0, 1) := by decide +kernel
theorem dT_slopeBackwards_155 : decode b_T_slopeBackwards 155 = .ok (.getfield 34, 3) := by decide +kernel
theorem dT_slopeBackwards_158 : decode b_T_slopeBackwards 158 = .ok (.iload_n 3, 1) := by decide +kernel
theorem dT_slopeBackwards_159 : decode b_T_slopeBackwards 159 = .ok (.laload, 1) := by decide +kernel
theorem dT_slopeBackwards_160 : decode b_T_slopeBackwards 160 = .ok (.aload_n 0, 1) := by decide +kernel
theorem dT_slopeBackwards_161 : decode b_T_slopeBackwards 161 = .ok (.getfield 21, 3) := by decide +kernel
theorem dT_slopeBackwards_164 : decode b_T_slopeBackwards 164 = .ok (.iload 5, 2) := by decide +kernel
theorem dT_slopeBackwards_166 : decode b_T_slopeBackwards 166 = .ok (.laload, 1) := by decide +kernel
theorem dT_slopeBackwards_167 : decode b_T_slopeBackwards 167 = .ok (.lmul, 1) := by decide +kernel
theorem dT_slopeBackwards_168 : decode b_T_slopeBackwards 168 = .ok (.ladd, 1) := by decide +kernel
theorem dT_slopeBackwards_169 : decode b_T_slopeBackwards 169 = .ok (.lastore, 1) := by decide +kernel
theorem dT_slopeBackwards_170 : decode b_T_slopeBackwards 170 = .ok (.aload_n 0, 1) := by decide +kernel
theorem dT_slopeBackwards_171 : decode b_T_slopeBackwards 171 = .ok (.getfield 34, 3) := by decide +kernel
theorem dT_slopeBackwards_174 : decode b_T_slopeBackwards 174 = .ok (.iload 5, 2) := by decide +kernel
theorem dT_slopeBackwards_176 : decode b_T_slopeBackwards 176 = .ok (.dup2, 1) := by decide +kernel
theorem dT_slopeBackwards_177 : decode b_T_slopeBackwards 177 = .ok (.laload, 1) := by decide +kernel
theorem dT_slopeBackwards_178 : decode b_T_slopeBackwards 178 = .ok (.aload_n 0, 1) := by decide +kernel
theorem dT_slopeBackwards_179 : decode b_T_slopeBackwards 179 = .ok (.getfield 34, 3) := by decide +kernel
theorem dT_slopeBackwards_182 : decode b_T_slopeBackwards 182 = .ok (.iload_n 3, 1) := by decide +kernel
theorem dT_slopeBackwards_183 : decode b_T_slopeBackwards 183 = .ok (.laload, 1) := by decide +kernel
theorem dT_slopeBackwards_184 : decode b_T_slopeBackwards 184 = .ok (.aload_n 0, 1) := by decide +kernel
theorem dT_slopeBackwards_185 : decode b_T_slopeBackwards 185 = .ok (.getfield 21, 3) := by decide +kernel
theorem dT_slopeBackwards_188 : decode b_T_slopeBackwards 188 = .ok (.iload 4, 2) := by decide +kernel
theorem dT_slopeBackwards_190 : decode b_T_slopeBackwards 190 = .ok (.laload, 1) := by decide +kernel
theorem dT_slopeBackwards_191 : decode b_T_slopeBackwards 191 = .ok (.lmul, 1) := by decide +kernel
theorem dT_slopeBackwards_192 : decode b_T_slopeBackwards 192 = .ok (.ladd, 1) := by decide +kernel
theorem dT_slopeBackwards_193 : decode b_T_slopeBackwards 193 = .ok (.lastore, 1) := by decide +kernel
theorem dT_slopeBackwards_194 : decode b_T_slopeBackwards 194 = .ok (.goto 3, 3) := by decide +kernel
theorem dT_slopeBackwards_197 : decode b_T_slopeBackwards 197 = .ok (.iinc 3 (-1), 3) := by decide +kernel
theorem dT_slopeBackwards_200 : decode b_T_slopeBackwards 200 = .ok (.goto (-178), 3) := by decide +kernel
theorem dT_slopeBackwards_203 : decode b_T_slopeBackwards 203 = .ok (.aload_n 0, 1) := by decide +kernel
theorem dT_slopeBackwards_204 : decode b_T_slopeBackwards 204 = .ok (.getfield 34, 3) := by decide +kernel
theorem dT_slopeBackwards_207 : decode b_T_slopeBackwards 207 = .ok (.iconst 1, 1) := by decide +kernel
theorem dT_slopeBackwards_208 : decode b_T_slopeBackwards 208 = .ok (.iload_n 2, 1) := by decide +kernel
theorem dT_slopeBackwards_209 : decode b_T_slopeBackwards 209 = .ok (.iadd, 1) := by decide +kernel
theorem dT_slopeBackwards_210 : decode b_T_slopeBackwards 210 = .ok (.laload, 1) := by decide +kernel
theorem dT_slopeBackwards_211 : decode b_T_slopeBackwards 211 = .ok (.lreturn, 1) := by decide +kernel
theorem dT_slopeFromParts_0 : decode b_T_slopeFromParts 0 = .ok (.aload_n 0, 1) := by decide +kernel
theorem dT_slopeFromParts_1 : decode b_T_slopeFromParts 1 = .ok (.getfield 15, 3) := by decide +kernel
theorem dT_slopeFromParts_4 : decode b_T_slopeFromParts 4 = .ok (.iload_n 2, 1) := by decide +kernel
theorem dT_slopeFromParts_5 : decode b_T_slopeFromParts 5 = .ok (.iaload, 1) := by decide +kernel
theorem dT_slopeFromParts_6 : decode b_T_slopeFromParts 6 = .ok (.istore_n 3, 1) := by decide +kernel
theorem dT_slopeFromParts_7 : decode b_T_slopeFromParts 7 = .ok (.aload_n 0, 1) := by decide +kernel
theorem dT_slopeFromParts_8 : decode b_T_slopeFromParts 8 = .ok (.getfield 18, 3) := by decide +kernel
theorem dT_slopeFromParts_11 : decode b_T_slopeFromParts 11 = .ok (.iload_n 2, 1) := by decide +kernel
theorem dT_slopeFromParts_12 : decode b_T_slopeFromParts 12 = .ok (.iaload, 1) := by decide +kernel
theorem dT_slopeFromParts_13 : decode b_T_slopeFromParts 13 = .ok (.istore 4, 2) := by decide +kernel
theorem dT_slopeFromParts_15 : decode b_T_slopeFromParts 15 = .ok (.aload_n 0, 1) := by decide +kernel
theorem dT_slopeFromParts_16 : decode b_T_slopeFromParts 16 = .ok (.getfield 11, 3) := by decide +kernel
theorem dT_slopeFromParts_19 : decode b_T_slopeFromParts 19 = .ok (.iload_n 2, 1) := by decide +kernel
theorem dT_slopeFromParts_20 : decode b_T_slopeFromParts 20 = .ok (.iaload, 1) := by decide +kernel
theorem dT_slopeFromParts_21 : decode b_T_slopeFromParts 21 = .ok (.tableswitch 69 1 3 #[27, 36, 45], 27) := by decide +kernel
theorem dT_slopeFromParts_48 : decode b_T_slopeFromParts 48 = .ok (.aload_n 1, 1) := by decide +kernel
theorem dT_slopeFromParts_49 : decode b_T_slopeFromParts 49 = .ok (.iload_n 3, 1) := by decide +kernel
theorem dT_slopeFromParts_50 : decode b_T_slopeFromParts 50 = .ok (.laload, 1) := by decide +kernel
theorem dT_slopeFromParts_51 : decode b_T_slopeFromParts 51 = .ok (.aload_n 1, 1) := by decide +kernel
theorem dT_slopeFromParts_52 : decode b_T_slopeFromParts 52 = .ok (.iload 4, 2) := by decide +kernel
theorem dT_slopeFromParts_54 : decode b_T_slopeFromParts 54 = .ok (.laload, 1) := by decide +kernel
theorem dT_slopeFromParts_55 : decode b_T_slopeFromParts 55 = .ok (.ladd, 1) := by decide +kernel
theorem dT_slopeFromParts_56 : decode b_T_slopeFromParts 56 = .ok (.lreturn, 1) := by decide +kernel
theorem dT_slopeFromParts_57 : decode b_T_slopeFromParts 57 = .ok (.aload_n 1, 1) := by decide +kernel
theorem dT_slopeFromParts_58 : decode b_T_slopeFromParts 58 = .ok (.iload_n 3, 1) := by decide +kernel
theorem dT_slopeFromParts_59 : decode b_T_slopeFromParts 59 = .ok (.laload, 1) := by decide +kernel
theorem dT_slopeFromParts_60 : decode b_T_slopeFromParts 60 = .ok (.aload_n 1, 1) := by decide +kernel
theorem dT_slopeFromParts_61 : decode b_T_slopeFromParts 61 = .ok (.iload 4, 2) := by decide +kernel
theorem dT_slopeFromParts_63 : decode b_T_slopeFromParts 63 = .ok (.laload, 1) := by decide +kernel
theorem dT_slopeFromParts_64 : decode b_T_slopeFromParts 64 = .ok (.lsub, 1) := by decide +kernel
theorem dT_slopeFromParts_65 : decode b_T_slopeFromParts 65 = .ok (.lreturn, 1) := by decide +kernel
theorem dT_slopeFromParts_66 : decode b_T_slopeFromParts 66 = .ok (.aload_n 1, 1) := by decide +kernel
theorem dT_slopeFromParts_67 : decode b_T_slopeFromParts 67 = .ok (.iload_n 3, 1) := by decide +kernel
theorem dT_slopeFromParts_68 : decode b_T_slopeFromParts 68 = .ok (.laload, 1) := by decide +kernel
theorem dT_slopeFromParts_69 : decode b_T_slopeFromParts 69 = .ok (.aload_n 0, 1) := by decide +kernel
theorem dT_slopeFromParts_70 : decode b_T_slopeFromParts 70 = .ok (.getfield 21, 3) := by decide +kernel
theorem dT_slopeFromParts_73 : decode b_T_slopeFromParts 73 = .ok (.iload 4, 2) := by decide +kernel
theorem dT_slopeFromParts_75 : decode b_T_slopeFromParts 75 = .ok (.laload, 1) := by decide +kernel
theorem dT_slopeFromParts_76 : decode b_T_slopeFromParts 76 = .ok (.lmul, 1) := by decide +kernel
theorem dT_slopeFromParts_77 : decode b_T_slopeFromParts 77 = .ok (.aload_n 0, 1) := by decide +kernel
theorem dT_slopeFromParts_78 : decode b_T_slopeFromParts 78 = .ok (.getfield 21, 3) := by decide +kernel
theorem dT_slopeFromParts_81 : decode b_T_slopeFromParts 81 = .ok (.iload_n 3, 1) := by decide +kernel
theorem dT_slopeFromParts_82 : decode b_T_slopeFromParts 82 = .ok (.laload, 1) := by decide +kernel
theorem dT_slopeFromParts_83 : decode b_T_slopeFromParts 83 = .ok (.aload_n 1, 1) := by decide +kernel
theorem dT_slopeFromParts_84 : decode b_T_slopeFromParts 84 = .ok (.iload 4, 2) := by decide +kernel
theorem dT_slopeFromParts_86 : decode b_T_slopeFromParts 86 = .ok (.laload, 1) := by decide +kernel
theorem dT_slopeFromParts_87 : decode b_T_slopeFromParts 87 = .ok (.lmul, 1) := by decide +kernel
theorem dT_slopeFromParts_88 : decode b_T_slopeFromParts 88 = .ok (.ladd, 1) := by decide +kernel
theorem dT_slopeFromParts_89 : decode b_T_slopeFromParts 89 = .ok (.lreturn, 1) := by decide +kernel
theorem dT_slopeFromParts_90 : decode b_T_slopeFromParts 90 = .ok (.lconst 0, 1) := by decide +kernel
theorem dT_slopeFromParts_91 : decode b_T_slopeFromParts 91 = .ok (.lreturn, 1) := by decide +kernel
theorem dT_slopeOfSlope_0 : decode b_T_slopeOfSlope 0 = .ok (.aload_n 0, 1) := by decide +kernel
theorem dT_slopeOfSlope_1 : decode b_T_slopeOfSlope 1 = .ok (.aload_n 0, 1) := by decide +kernel
theorem dT_slopeOfSlope_2 : decode b_T_slopeOfSlope 2 = .ok (.getfield 25, 3) := by decide +kernel
theorem dT_slopeOfSlope_5 : decode b_T_slopeOfSlope 5 = .ok (.iload_n 2, 1) := by decide +kernel
theorem dT_slopeOfSlope_6 : decode b_T_slopeOfSlope 6 = .ok (.invokevirtual 56, 3) := by decide +kernel
theorem dT_slopeOfSlope_9 : decode b_T_slopeOfSlope 9 = .ok (.aload_n 0, 1) := by decide +kernel
theorem dT_slopeOfSlope_10 : decode b_T_slopeOfSlope 10 = .ok (.aload_n 0, 1) := by decide +kernel
theorem dT_slopeOfSlope_11 : decode b_T_slopeOfSlope 11 = .ok (.getfield 28, 3) := by decide +kernel
theorem dT_slopeOfSlope_14 : decode b_T_slopeOfSlope 14 = .ok (.iload_n 3, 1) := by decide +kernel
theorem dT_slopeOfSlope_15 : decode b_T_slopeOfSlope 15 = .ok (.invokevirtual 56, 3) := by decide +kernel
theorem dT_slopeOfSlope_18 : decode b_T_slopeOfSlope 18 = .ok (.iconst 0, 1) := by decide +kernel
theorem dT_slopeOfSlope_19 : decode b_T_slopeOfSlope 19 = .ok (.istore 4, 2) := by decide +kernel
theorem dT_slopeOfSlope_21 : decode b_T_slopeOfSlope 21 = .ok (.iload 4, 2) := by decide +kernel
theorem dT_slopeOfSlope_23 : decode b_T_slopeOfSlope 23 = .ok (.aload_n 0, 1) := by decide +kernel
theorem dT_slopeOfSlope_24 : decode b_T_slopeOfSlope 24 = .ok (.getfield 37, 3) := by decide +kernel
theorem dT_slopeOfSlope_27 : decode b_T_slopeOfSlope 27 = .ok (.if_icmp .ge 98, 3) := by decide +kernel
theorem dT_slopeOfSlope_30 : decode b_T_slopeOfSlope 30 = .ok (.aload_n 0, 1) := by decide +kernel
theorem dT_slopeOfSlope_31 : decode b_T_slopeOfSlope 31 = .ok (.getfield 31, 3) := by decide +kernel
theorem dT_slopeOfSlope_34 : decode b_T_slopeOfSlope 34 = .ok (.iload 4, 2) := by decide +kernel
theorem dT_slopeOfSlope_36 : decode b_T_slopeOfSlope 36 = .ok (.aload_n 0, 1) := by decide +kernel
theorem dT_slopeOfSlope_37 : decode b_T_slopeOfSlope 37 = .ok (.aload_n 0, 1) := by decide +kernel
theorem dT_slopeOfSlope_38 : decode b_T_slopeOfSlope 38 = .ok (.getfield 31, 3) := by decide +kernel
theorem dT_slopeOfSlope_41 : decode b_T_slopeOfSlope 41 = .ok (.iload 4, 2) := by decide +kernel
theorem dT_slopeOfSlope_43 : decode b_T_slopeOfSlope 43 = .ok (.invokevirtual 60, 3) := by decide +kernel
theorem dT_slopeOfSlope_46 : decode b_T_slopeOfSlope 46 = .ok (.lastore, 1) := by decide +kernel
theorem dT_slopeOfSlope_47 : decode b_T_slopeOfSlope 47 = .ok (.aload_n 0, 1) := by decide +kernel
theorem dT_slopeOfSlope_48 : decode b_T_slopeOfSlope 48 = .ok (.getfield 11, 3) := by decide +kernel
theorem dT_slopeOfSlope_51 : decode b_T_slopeOfSlope 51 = .ok (.iload 4, 2) := by decide +kernel
theorem dT_slopeOfSlope_53 : decode b_T_slopeOfSlope 53 = .ok (.iaload, 1) := by decide +kernel
theorem dT_slopeOfSlope_54 : decode b_T_slopeOfSlope 54 = .ok (.iconst 3, 1) := by decide +kernel
theorem dT_slopeOfSlope_55 : decode b_T_slopeOfSlope 55 = .ok (.if_icmp .ne 64, 3) := by decide +kernel
theorem dT_slopeOfSlope_58 : decode b_T_slopeOfSlope 58 = .ok (.aload_n 0, 1) := by decide +kernel
theorem dT_slopeOfSlope_59 : decode b_T_slopeOfSlope 59 = .ok (.getfield 31, 3) := by decide +kernel
theorem dT_slopeOfSlope_62 : decode b_T_slopeOfSlope 62 = .ok (.iload 4, 2) := by decide +kernel
theorem dT_slopeOfSlope_64 : decode b_T_slopeOfSlope 64 = .ok (.dup2, 1) := by decide +kernel
theorem dT_slopeOfSlope_65 : decode b_T_slopeOfSlope 65 = .ok (.laload, 1) := by decide +kernel
theorem dT_slopeOfSlope_66 : decode b_T_slopeOfSlope 66 = .ok (.aload_n 0, 1) := by decide +kernel
theorem dT_slopeOfSlope_67 : decode b_T_slopeOfSlope 67 = .ok (.getfield 25, 3) := by decide +kernel
theorem dT_slopeOfSlope_70 : decode b_T_slopeOfSlope 70 = .ok (.aload_n 0, 1) := by decide +kernel
theorem dT_slopeOfSlope_71 : decode b_T_slopeOfSlope 71 = .ok (.getfield 15, 3) := by decide +kernel
theorem dT_slopeOfSlope_74 : decode b_T_slopeOfSlope 74 = .ok (.iload 4, 2) := by decide +kernel
theorem dT_slopeOfSlope_76 : decode b_T_slopeOfSlope 76 = .ok (.iaload, 1) := by decide +kernel
theorem dT_slopeOfSlope_77 : decode b_T_slopeOfSlope 77 = .ok (.laload, 1) := by decide +kernel
theorem dT_slopeOfSlope_78 : decode b_T_slopeOfSlope 78 = .ok (.aload_n 0, 1) := by decide +kernel
theorem dT_slopeOfSlope_79 : decode b_T_slopeOfSlope 79 = .ok (.getfield 28, 3) := by decide +kernel
theorem dT_slopeOfSlope_82 : decode b_T_slopeOfSlope 82 = .ok (.aload_n 0, 1) := by decide +kernel
theorem dT_slopeOfSlope_83 : decode b_T_slopeOfSlope 83 = .ok (.getfield 18, 3) := by decide +kernel
theorem dT_slopeOfSlope_86 : decode b_T_slopeOfSlope 86 = .ok (.iload 4, 2) := by decide +kernel
theorem dT_slopeOfSlope_88 : decode b_T_slopeOfSlope 88 = .ok (.iaload, 1) := by decide +kernel
theorem dT_slopeOfSlope_89 : decode b_T_slopeOfSlope 89 = .ok (.laload, 1) := by decide +kernel
theorem dT_slopeOfSlope_90 : decode b_T_slopeOfSlope 90 = .ok (.lmul, 1) := by decide +kernel
theorem dT_slopeOfSlope_91 : decode b_T_slopeOfSlope 91 = .ok (.aload_n 0, 1) := by decide +kernel
theorem dT_slopeOfSlope_92 : decode b_T_slopeOfSlope 92 = .ok (.getfield 28, 3) := by decide +kernel
theorem dT_slopeOfSlope_95 : decode b_T_slopeOfSlope 95 = .ok (.aload_n 0, 1) := by decide +kernel
theorem dT_slopeOfSlope_96 : decode b_T_slopeOfSlope 96 = .ok (.getfield 15, 3) := by decide +kernel
theorem dT_slopeOfSlope_99 : decode b_T_slopeOfSlope 99 = .ok (.iload 4, 2) := by decide +kernel
theorem dT_slopeOfSlope_101 : decode b_T_slopeOfSlope 101 = .ok (.iaload, 1) := by decide +kernel
theorem dT_slopeOfSlope_102 : decode b_T_slopeOfSlope 102 = .ok (.laload, 1) := by decide +kernel
theorem dT_slopeOfSlope_103 : decode b_T_slopeOfSlope 103 = .ok (.aload_n 0, 1) := by decide +kernel
theorem dT_slopeOfSlope_104 : decode b_T_slopeOfSlope 104 = .ok (.getfield 25, 3) := by decide +kernel
theorem dT_slopeOfSlope_107 : decode b_T_slopeOfSlope 107 = .ok (.aload_n 0, 1) := by decide +kernel
theorem dT_slopeOfSlope_108 : decode b_T_slopeOfSlope 108 = .ok (.getfield 18, 3) := by decide +kernel
theorem dT_slopeOfSlope_111 : decode b_T_slopeOfSlope 111 = .ok (.iload 4, 2) := by decide +kernel
theorem dT_slopeOfSlope_113 : decode b_T_slopeOfSlope 113 = .ok (.iaload, 1) := by decide +kernel
theorem dT_slopeOfSlope_114 : decode b_T_slopeOfSlope 114 = .ok (.laload, 1) := by decide +kernel
theorem dT_slopeOfSlope_115 : decode b_T_slopeOfSlope 115 = .ok (.lmul, 1) := by decide +kernel
theorem dT_slopeOfSlope_116 : decode b_T_slopeOfSlope 116 = .ok (.ladd, 1) := by decide +kernel
theorem dT_slopeOfSlope_117 : decode b_T_slopeOfSlope 117 = .ok (.ladd, 1) := by decide +kernel
theorem dT_slopeOfSlope_118 : decode b_T_slopeOfSlope 118 = .ok (.lastore, 1) := by decide +kernel
theorem dT_slopeOfSlope_119 : decode b_T_slopeOfSlope 119 = .ok (.iinc 4 1, 3) := by decide +kernel
theorem dT_slopeOfSlope_122 : decode b_T_slopeOfSlope 122 = .ok (.goto (-101), 3) := by decide +kernel
theorem dT_slopeOfSlope_125 : decode b_T_slopeOfSlope 125 = .ok (.aload_n 0, 1) := by decide +kernel
theorem dT_slopeOfSlope_126 : decode b_T_slopeOfSlope 126 = .ok (.getfield 31, 3) := by decide +kernel
theorem dT_slopeOfSlope_129 : decode b_T_slopeOfSlope 129 = .ok (.iload_n 1, 1) := by decide +kernel
theorem dT_slopeOfSlope_130 : decode b_T_slopeOfSlope 130 = .ok (.laload, 1) := by decide +kernel
theorem dT_slopeOfSlope_131 : decode b_T_slopeOfSlope 131 = .ok (.lreturn, 1) := by decide +kernel
theorem dT_sum_0 : decode b_T_sum 0 = .ok (.aload_n 0, 1) := by decide +kernel
theorem dT_sum_1 : decode b_T_sum 1 = .ok (.iconst 1, 1) := by decide +kernel
theorem dT_sum_2 : decode b_T_sum 2 = .ok (.iload_n 1, 1) := by decide +kernel
theorem dT_sum_3 : decode b_T_sum 3 = .ok (.iload_n 2, 1) := by decide +kernel
theorem dT_sum_4 : decode b_T_sum 4 = .ok (.aload_n 0, 1) := by decide +kernel
theorem dT_sum_5 : decode b_T_sum 5 = .ok (.getfield 21, 3) := by decide +kernel
theorem dT_sum_8 : decode b_T_sum 8 = .ok (.iload_n 1, 1) := by decide +kernel
theorem dT_sum_9 : decode b_T_sum 9 = .ok (.laload, 1) := by decide +kernel
theorem dT_sum_10 : decode b_T_sum 10 = .ok (.aload_n 0, 1) := by decide +kernel
theorem dT_sum_11 : decode b_T_sum 11 = .ok (.getfield 21, 3) := by decide +kernel
theorem dT_sum_14 : decode b_T_sum 14 = .ok (.iload_n 2, 1) := by decide +kernel
theorem dT_sum_15 : decode b_T_sum 15 = .ok (.laload, 1) := by decide +kernel
theorem dT_sum_16 : decode b_T_sum 16 = .ok (.ladd, 1) := by decide +kernel
theorem dT_sum_17 : decode b_T_sum 17 = .ok (.invokevirtual 41, 3) := by decide +kernel
theorem dT_sum_20 : decode b_T_sum 20 = .ok (.ireturn, 1) := by decide +kernel
theorem dT_workOutSlopes_0 : decode b_T_workOutSlopes 0 = .ok (.iconst 0, 1) := by decide +kernel
theorem dT_workOutSlopes_1 : decode b_T_workOutSlopes 1 = .ok (.istore_n 3, 1) := by decide +kernel
theorem dT_workOutSlopes_2 : decode b_T_workOutSlopes 2 = .ok (.iload_n 3, 1) := by decide +kernel
theorem dT_workOutSlopes_3 : decode b_T_workOutSlopes 3 = .ok (.aload_n 0, 1) := by decide +kernel
theorem dT_workOutSlopes_4 : decode b_T_workOutSlopes 4 = .ok (.getfield 37, 3) := by decide +kernel
theorem dT_workOutSlopes_7 : decode b_T_workOutSlopes 7 = .ok (.if_icmp .ge 29, 3) := by decide +kernel
theorem dT_workOutSlopes_10 : decode b_T_workOutSlopes 10 = .ok (.aload_n 1, 1) := by decide +kernel
theorem dT_workOutSlopes_11 : decode b_T_workOutSlopes 11 = .ok (.iload_n 3, 1) := by decide +kernel
theorem dT_workOutSlopes_12 : decode b_T_workOutSlopes 12 = .ok (.iload_n 3, 1) := by decide +kernel
theorem dT_workOutSlopes_13 : decode b_T_workOutSlopes 13 = .ok (.iconst 1, 1) := by decide +kernel
theorem dT_workOutSlopes_14 : decode b_T_workOutSlopes 14 = .ok (.iload_n 2, 1) := by decide +kernel
theorem dT_workOutSlopes_15 : decode b_T_workOutSlopes 15 = .ok (.iadd, 1) := by decide +kernel
theorem dT_workOutSlopes_16 : decode b_T_workOutSlopes 16 = .ok (.if_icmp .ne 7, 3) := by decide +kernel
theorem dT_workOutSlopes_19 : decode b_T_workOutSlopes 19 = .ok (.lconst 1, 1) := by decide +kernel
theorem dT_workOutSlopes_20 : decode b_T_workOutSlopes 20 = .ok (.goto 9, 3) := by decide +kernel
theorem dT_workOutSlopes_23 : decode b_T_workOutSlopes 23 = .ok (.aload_n 0, 1) := by decide +kernel
theorem dT_workOutSlopes_24 : decode b_T_workOutSlopes 24 = .ok (.aload_n 1, 1) := by decide +kernel
theorem dT_workOutSlopes_25 : decode b_T_workOutSlopes 25 = .ok (.iload_n 3, 1) := by decide +kernel
theorem dT_workOutSlopes_26 : decode b_T_workOutSlopes 26 = .ok (.invokevirtual 60, 3) := by decide +kernel
theorem dT_workOutSlopes_29 : decode b_T_workOutSlopes 29 = .ok (.lastore, 1) := by decide +kernel
theorem dT_workOutSlopes_30 : decode b_T_workOutSlopes 30 = .ok (.iinc 3 1, 3) := by decide +kernel
theorem dT_workOutSlopes_33 : decode b_T_workOutSlopes 33 = .ok (.goto (-31), 3) := by decide +kernel
theorem dT_workOutSlopes_36 : decode b_T_workOutSlopes 36 = .ok (.return_, 1) := by decide +kernel
