theorem dX0_init_0 : decode cX0_init 0 = .ok (.aload_n 0, 1) := by decide +kernel
theorem dX0_init_1 : decode cX0_init 1 = .ok (.invokespecial 3, 3) := by decide +kernel
theorem dX0_init_4 : decode cX0_init 4 = .ok (.aload_n 0, 1) := by decide +kernel
theorem dX0_init_5 : decode cX0_init 5 = .ok (.new 9, 3) := by decide +kernel
theorem dX0_init_8 : decode cX0_init 8 = .ok (.dup, 1) := by decide +kernel
theorem dX0_init_9 : decode cX0_init 9 = .ok (.bipush 49, 2) := by decide +kernel
theorem dX0_init_11 : decode cX0_init 11 = .ok (.invokespecial 11, 3) := by decide +kernel
theorem dX0_init_14 : decode cX0_init 14 = .ok (.putfield 14, 3) := by decide +kernel
theorem dX0_init_17 : decode cX0_init 17 = .ok (.aload_n 0, 1) := by decide +kernel
theorem dX0_init_18 : decode cX0_init 18 = .ok (.new 9, 3) := by decide +kernel
theorem dX0_init_21 : decode cX0_init 21 = .ok (.dup, 1) := by decide +kernel
theorem dX0_init_22 : decode cX0_init 22 = .ok (.bipush 49, 2) := by decide +kernel
theorem dX0_init_24 : decode cX0_init 24 = .ok (.invokespecial 11, 3) := by decide +kernel
theorem dX0_init_27 : decode cX0_init 27 = .ok (.putfield 20, 3) := by decide +kernel
theorem dX0_init_30 : decode cX0_init 30 = .ok (.aload_n 0, 1) := by decide +kernel
theorem dX0_init_31 : decode cX0_init 31 = .ok (.new 9, 3) := by decide +kernel
theorem dX0_init_34 : decode cX0_init 34 = .ok (.dup, 1) := by decide +kernel
theorem dX0_init_35 : decode cX0_init 35 = .ok (.bipush 49, 2) := by decide +kernel
theorem dX0_init_37 : decode cX0_init 37 = .ok (.invokespecial 11, 3) := by decide +kernel
theorem dX0_init_40 : decode cX0_init 40 = .ok (.putfield 23, 3) := by decide +kernel
theorem dX0_init_43 : decode cX0_init 43 = .ok (.return_, 1) := by decide +kernel
theorem dX0_find_0 : decode cX0_find 0 = .ok (.aload_n 0, 1) := by decide +kernel
theorem dX0_find_1 : decode cX0_find 1 = .ok (.getfield 14, 3) := by decide +kernel
theorem dX0_find_4 : decode cX0_find 4 = .ok (.iconst (-1), 1) := by decide +kernel
theorem dX0_find_5 : decode cX0_find 5 = .ok (.invokevirtual 26, 3) := by decide +kernel
theorem dX0_find_8 : decode cX0_find 8 = .ok (.aload_n 0, 1) := by decide +kernel
theorem dX0_find_9 : decode cX0_find 9 = .ok (.getfield 20, 3) := by decide +kernel
theorem dX0_find_12 : decode cX0_find 12 = .ok (.iconst 0, 1) := by decide +kernel
theorem dX0_find_13 : decode cX0_find 13 = .ok (.invokevirtual 26, 3) := by decide +kernel
theorem dX0_find_16 : decode cX0_find 16 = .ok (.iconst 0, 1) := by decide +kernel
theorem dX0_find_17 : decode cX0_find 17 = .ok (.istore_n 2, 1) := by decide +kernel
theorem dX0_find_18 : decode cX0_find 18 = .ok (.iload_n 2, 1) := by decide +kernel
theorem dX0_find_19 : decode cX0_find 19 = .ok (.aload_n 1, 1) := by decide +kernel
theorem dX0_find_20 : decode cX0_find 20 = .ok (.invokevirtual 29, 3) := by decide +kernel
theorem dX0_find_23 : decode cX0_find 23 = .ok (.if_icmp .ge 35, 3) := by decide +kernel
theorem dX0_find_26 : decode cX0_find 26 = .ok (.aload_n 1, 1) := by decide +kernel
theorem dX0_find_27 : decode cX0_find 27 = .ok (.iload_n 2, 1) := by decide +kernel
theorem dX0_find_28 : decode cX0_find 28 = .ok (.invokevirtual 35, 3) := by decide +kernel
theorem dX0_find_31 : decode cX0_find 31 = .ok (.ifCond .eq 21, 3) := by decide +kernel
theorem dX0_find_34 : decode cX0_find 34 = .ok (.aload_n 0, 1) := by decide +kernel
theorem dX0_find_35 : decode cX0_find 35 = .ok (.getfield 14, 3) := by decide +kernel
theorem dX0_find_38 : decode cX0_find 38 = .ok (.iload_n 2, 1) := by decide +kernel
theorem dX0_find_39 : decode cX0_find 39 = .ok (.invokevirtual 39, 3) := by decide +kernel
theorem dX0_find_42 : decode cX0_find 42 = .ok (.iconst (-1), 1) := by decide +kernel
theorem dX0_find_43 : decode cX0_find 43 = .ok (.if_icmp .ne 9, 3) := by decide +kernel
theorem dX0_find_46 : decode cX0_find 46 = .ok (.aload_n 0, 1) := by decide +kernel
theorem dX0_find_47 : decode cX0_find 47 = .ok (.aload_n 1, 1) := by decide +kernel
theorem dX0_find_48 : decode cX0_find 48 = .ok (.iload_n 2, 1) := by decide +kernel
theorem dX0_find_49 : decode cX0_find 49 = .ok (.invokevirtual 43, 3) := by decide +kernel
theorem dX0_find_52 : decode cX0_find 52 = .ok (.iinc 2 1, 3) := by decide +kernel
theorem dX0_find_55 : decode cX0_find 55 = .ok (.goto (-37), 3) := by decide +kernel
theorem dX0_find_58 : decode cX0_find 58 = .ok (.return_, 1) := by decide +kernel
theorem dX0_spread_0 : decode cX0_spread 0 = .ok (.aload_n 0, 1) := by decide +kernel
theorem dX0_spread_1 : decode cX0_spread 1 = .ok (.getfield 14, 3) := by decide +kernel
theorem dX0_spread_4 : decode cX0_spread 4 = .ok (.iload_n 2, 1) := by decide +kernel
theorem dX0_spread_5 : decode cX0_spread 5 = .ok (.iload_n 2, 1) := by decide +kernel
theorem dX0_spread_6 : decode cX0_spread 6 = .ok (.invokevirtual 47, 3) := by decide +kernel
theorem dX0_spread_9 : decode cX0_spread 9 = .ok (.aload_n 0, 1) := by decide +kernel
theorem dX0_spread_10 : decode cX0_spread 10 = .ok (.getfield 23, 3) := by decide +kernel
theorem dX0_spread_13 : decode cX0_spread 13 = .ok (.iconst 0, 1) := by decide +kernel
theorem dX0_spread_14 : decode cX0_spread 14 = .ok (.iload_n 2, 1) := by decide +kernel
theorem dX0_spread_15 : decode cX0_spread 15 = .ok (.invokevirtual 47, 3) := by decide +kernel
theorem dX0_spread_18 : decode cX0_spread 18 = .ok (.iconst 1, 1) := by decide +kernel
theorem dX0_spread_19 : decode cX0_spread 19 = .ok (.istore_n 3, 1) := by decide +kernel
theorem dX0_spread_20 : decode cX0_spread 20 = .ok (.iconst 0, 1) := by decide +kernel
theorem dX0_spread_21 : decode cX0_spread 21 = .ok (.istore 4, 2) := by decide +kernel
theorem dX0_spread_23 : decode cX0_spread 23 = .ok (.iload 4, 2) := by decide +kernel
theorem dX0_spread_25 : decode cX0_spread 25 = .ok (.iload_n 3, 1) := by decide +kernel
theorem dX0_spread_26 : decode cX0_spread 26 = .ok (.if_icmp .ge 132, 3) := by decide +kernel
theorem dX0_spread_29 : decode cX0_spread 29 = .ok (.iload 4, 2) := by decide +kernel
theorem dX0_spread_31 : decode cX0_spread 31 = .ok (.bipush 49, 2) := by decide +kernel
theorem dX0_spread_33 : decode cX0_spread 33 = .ok (.if_icmp .ge 125, 3) := by decide +kernel
theorem dX0_spread_36 : decode cX0_spread 36 = .ok (.aload_n 0, 1) := by decide +kernel
theorem dX0_spread_37 : decode cX0_spread 37 = .ok (.getfield 23, 3) := by decide +kernel
theorem dX0_spread_40 : decode cX0_spread 40 = .ok (.iload 4, 2) := by decide +kernel
theorem dX0_spread_42 : decode cX0_spread 42 = .ok (.invokevirtual 39, 3) := by decide +kernel
theorem dX0_spread_45 : decode cX0_spread 45 = .ok (.istore 5, 2) := by decide +kernel
theorem dX0_spread_47 : decode cX0_spread 47 = .ok (.aload_n 1, 1) := by decide +kernel
theorem dX0_spread_48 : decode cX0_spread 48 = .ok (.iload 5, 2) := by decide +kernel
theorem dX0_spread_50 : decode cX0_spread 50 = .ok (.invokevirtual 51, 3) := by decide +kernel
theorem dX0_spread_53 : decode cX0_spread 53 = .ok (.ifCond .eq 12, 3) := by decide +kernel
theorem dX0_spread_56 : decode cX0_spread 56 = .ok (.aload_n 0, 1) := by decide +kernel
theorem dX0_spread_57 : decode cX0_spread 57 = .ok (.getfield 20, 3) := by decide +kernel
theorem dX0_spread_60 : decode cX0_spread 60 = .ok (.iload_n 2, 1) := by decide +kernel
theorem dX0_spread_61 : decode cX0_spread 61 = .ok (.iconst 1, 1) := by decide +kernel
theorem dX0_spread_62 : decode cX0_spread 62 = .ok (.invokevirtual 47, 3) := by decide +kernel
theorem dX0_spread_65 : decode cX0_spread 65 = .ok (.iconst 0, 1) := by decide +kernel
theorem dX0_spread_66 : decode cX0_spread 66 = .ok (.istore 6, 2) := by decide +kernel
theorem dX0_spread_68 : decode cX0_spread 68 = .ok (.iload 6, 2) := by decide +kernel
theorem dX0_spread_70 : decode cX0_spread 70 = .ok (.iconst 4, 1) := by decide +kernel
theorem dX0_spread_71 : decode cX0_spread 71 = .ok (.if_icmp .ge 81, 3) := by decide +kernel
theorem dX0_spread_74 : decode cX0_spread 74 = .ok (.aload_n 1, 1) := by decide +kernel
theorem dX0_spread_75 : decode cX0_spread 75 = .ok (.iload 5, 2) := by decide +kernel
theorem dX0_spread_77 : decode cX0_spread 77 = .ok (.iload 6, 2) := by decide +kernel
theorem dX0_spread_79 : decode cX0_spread 79 = .ok (.invokevirtual 54, 3) := by decide +kernel
theorem dX0_spread_82 : decode cX0_spread 82 = .ok (.istore 7, 2) := by decide +kernel
theorem dX0_spread_84 : decode cX0_spread 84 = .ok (.iload 7, 2) := by decide +kernel
theorem dX0_spread_86 : decode cX0_spread 86 = .ok (.iconst (-1), 1) := by decide +kernel
theorem dX0_spread_87 : decode cX0_spread 87 = .ok (.if_icmp .eq 59, 3) := by decide +kernel
theorem dX0_spread_90 : decode cX0_spread 90 = .ok (.aload_n 1, 1) := by decide +kernel
theorem dX0_spread_91 : decode cX0_spread 91 = .ok (.iload 7, 2) := by decide +kernel
theorem dX0_spread_93 : decode cX0_spread 93 = .ok (.invokevirtual 35, 3) := by decide +kernel
theorem dX0_spread_96 : decode cX0_spread 96 = .ok (.ifCond .eq 50, 3) := by decide +kernel
theorem dX0_spread_99 : decode cX0_spread 99 = .ok (.aload_n 0, 1) := by decide +kernel
theorem dX0_spread_100 : decode cX0_spread 100 = .ok (.getfield 14, 3) := by decide +kernel
theorem dX0_spread_103 : decode cX0_spread 103 = .ok (.iload 7, 2) := by decide +kernel
theorem dX0_spread_105 : decode cX0_spread 105 = .ok (.invokevirtual 39, 3) := by decide +kernel
theorem dX0_spread_108 : decode cX0_spread 108 = .ok (.iconst (-1), 1) := by decide +kernel
theorem dX0_spread_109 : decode cX0_spread 109 = .ok (.if_icmp .ne 37, 3) := by decide +kernel
theorem dX0_spread_112 : decode cX0_spread 112 = .ok (.aload_n 1, 1) := by decide +kernel
theorem dX0_spread_113 : decode cX0_spread 113 = .ok (.iload 5, 2) := by decide +kernel
theorem dX0_spread_115 : decode cX0_spread 115 = .ok (.iload 6, 2) := by decide +kernel
theorem dX0_spread_117 : decode cX0_spread 117 = .ok (.invokevirtual 58, 3) := by decide +kernel
theorem dX0_spread_120 : decode cX0_spread 120 = .ok (.ifCond .ne 26, 3) := by decide +kernel
theorem dX0_spread_123 : decode cX0_spread 123 = .ok (.aload_n 0, 1) := by decide +kernel
theorem dX0_spread_124 : decode cX0_spread 124 = .ok (.getfield 14, 3) := by decide +kernel
theorem dX0_spread_127 : decode cX0_spread 127 = .ok (.iload 7, 2) := by decide +kernel
theorem dX0_spread_129 : decode cX0_spread 129 = .ok (.iload_n 2, 1) := by decide +kernel
theorem dX0_spread_130 : decode cX0_spread 130 = .ok (.invokevirtual 47, 3) := by decide +kernel
theorem dX0_spread_133 : decode cX0_spread 133 = .ok (.aload_n 0, 1) := by decide +kernel
theorem dX0_spread_134 : decode cX0_spread 134 = .ok (.getfield 23, 3) := by decide +kernel
theorem dX0_spread_137 : decode cX0_spread 137 = .ok (.iload_n 3, 1) := by decide +kernel
theorem dX0_spread_138 : decode cX0_spread 138 = .ok (.iload 7, 2) := by decide +kernel
theorem dX0_spread_140 : decode cX0_spread 140 = .ok (.invokevirtual 47, 3) := by decide +kernel
theorem dX0_spread_143 : decode cX0_spread 143 = .ok (.iinc 3 1, 3) := by decide +kernel
theorem dX0_spread_146 : decode cX0_spread 146 = .ok (.iinc 6 1, 3) := by decide +kernel
theorem dX0_spread_149 : decode cX0_spread 149 = .ok (.goto (-81), 3) := by decide +kernel
theorem dX0_spread_152 : decode cX0_spread 152 = .ok (.iinc 4 1, 3) := by decide +kernel
theorem dX0_spread_155 : decode cX0_spread 155 = .ok (.goto (-132), 3) := by decide +kernel
theorem dX0_spread_158 : decode cX0_spread 158 = .ok (.return_, 1) := by decide +kernel
theorem dX0_numberAt_0 : decode cX0_numberAt 0 = .ok (.aload_n 0, 1) := by decide +kernel
theorem dX0_numberAt_1 : decode cX0_numberAt 1 = .ok (.getfield 14, 3) := by decide +kernel
theorem dX0_numberAt_4 : decode cX0_numberAt 4 = .ok (.iload_n 1, 1) := by decide +kernel
theorem dX0_numberAt_5 : decode cX0_numberAt 5 = .ok (.invokevirtual 39, 3) := by decide +kernel
theorem dX0_numberAt_8 : decode cX0_numberAt 8 = .ok (.ireturn, 1) := by decide +kernel
theorem dX0_isBlock_0 : decode cX0_isBlock 0 = .ok (.iload_n 1, 1) := by decide +kernel
theorem dX0_isBlock_1 : decode cX0_isBlock 1 = .ok (.ifCond .lt 25, 3) := by decide +kernel
theorem dX0_isBlock_4 : decode cX0_isBlock 4 = .ok (.iload_n 1, 1) := by decide +kernel
theorem dX0_isBlock_5 : decode cX0_isBlock 5 = .ok (.bipush 49, 2) := by decide +kernel
theorem dX0_isBlock_7 : decode cX0_isBlock 7 = .ok (.if_icmp .ge 19, 3) := by decide +kernel
theorem dX0_isBlock_10 : decode cX0_isBlock 10 = .ok (.aload_n 0, 1) := by decide +kernel
theorem dX0_isBlock_11 : decode cX0_isBlock 11 = .ok (.getfield 14, 3) := by decide +kernel
theorem dX0_isBlock_14 : decode cX0_isBlock 14 = .ok (.iload_n 1, 1) := by decide +kernel
theorem dX0_isBlock_15 : decode cX0_isBlock 15 = .ok (.invokevirtual 39, 3) := by decide +kernel
theorem dX0_isBlock_18 : decode cX0_isBlock 18 = .ok (.iload_n 1, 1) := by decide +kernel
theorem dX0_isBlock_19 : decode cX0_isBlock 19 = .ok (.if_icmp .ne 7, 3) := by decide +kernel
theorem dX0_isBlock_22 : decode cX0_isBlock 22 = .ok (.iconst 1, 1) := by decide +kernel
theorem dX0_isBlock_23 : decode cX0_isBlock 23 = .ok (.goto 4, 3) := by decide +kernel
theorem dX0_isBlock_26 : decode cX0_isBlock 26 = .ok (.iconst 0, 1) := by decide +kernel
theorem dX0_isBlock_27 : decode cX0_isBlock 27 = .ok (.ireturn, 1) := by decide +kernel
theorem dX0_isLoose_0 : decode cX0_isLoose 0 = .ok (.aload_n 0, 1) := by decide +kernel
theorem dX0_isLoose_1 : decode cX0_isLoose 1 = .ok (.iload_n 1, 1) := by decide +kernel
theorem dX0_isLoose_2 : decode cX0_isLoose 2 = .ok (.invokevirtual 61, 3) := by decide +kernel
theorem dX0_isLoose_5 : decode cX0_isLoose 5 = .ok (.ifCond .eq 18, 3) := by decide +kernel
theorem dX0_isLoose_8 : decode cX0_isLoose 8 = .ok (.aload_n 0, 1) := by decide +kernel
theorem dX0_isLoose_9 : decode cX0_isLoose 9 = .ok (.getfield 20, 3) := by decide +kernel
theorem dX0_isLoose_12 : decode cX0_isLoose 12 = .ok (.iload_n 1, 1) := by decide +kernel
theorem dX0_isLoose_13 : decode cX0_isLoose 13 = .ok (.invokevirtual 39, 3) := by decide +kernel
theorem dX0_isLoose_16 : decode cX0_isLoose 16 = .ok (.ifCond .ne 7, 3) := by decide +kernel
theorem dX0_isLoose_19 : decode cX0_isLoose 19 = .ok (.iconst 1, 1) := by decide +kernel
theorem dX0_isLoose_20 : decode cX0_isLoose 20 = .ok (.goto 4, 3) := by decide +kernel
theorem dX0_isLoose_23 : decode cX0_isLoose 23 = .ok (.iconst 0, 1) := by decide +kernel
theorem dX0_isLoose_24 : decode cX0_isLoose 24 = .ok (.ireturn, 1) := by decide +kernel
theorem dX0_sizeOf_0 : decode cX0_sizeOf 0 = .ok (.iconst 0, 1) := by decide +kernel
theorem dX0_sizeOf_1 : decode cX0_sizeOf 1 = .ok (.istore_n 2, 1) := by decide +kernel
theorem dX0_sizeOf_2 : decode cX0_sizeOf 2 = .ok (.iconst 0, 1) := by decide +kernel
theorem dX0_sizeOf_3 : decode cX0_sizeOf 3 = .ok (.istore_n 3, 1) := by decide +kernel
theorem dX0_sizeOf_4 : decode cX0_sizeOf 4 = .ok (.iload_n 3, 1) := by decide +kernel
theorem dX0_sizeOf_5 : decode cX0_sizeOf 5 = .ok (.bipush 49, 2) := by decide +kernel
theorem dX0_sizeOf_7 : decode cX0_sizeOf 7 = .ok (.if_icmp .ge 24, 3) := by decide +kernel
theorem dX0_sizeOf_10 : decode cX0_sizeOf 10 = .ok (.aload_n 0, 1) := by decide +kernel
theorem dX0_sizeOf_11 : decode cX0_sizeOf 11 = .ok (.getfield 14, 3) := by decide +kernel
theorem dX0_sizeOf_14 : decode cX0_sizeOf 14 = .ok (.iload_n 3, 1) := by decide +kernel
theorem dX0_sizeOf_15 : decode cX0_sizeOf 15 = .ok (.invokevirtual 39, 3) := by decide +kernel
theorem dX0_sizeOf_18 : decode cX0_sizeOf 18 = .ok (.iload_n 1, 1) := by decide +kernel
theorem dX0_sizeOf_19 : decode cX0_sizeOf 19 = .ok (.if_icmp .ne 6, 3) := by decide +kernel
theorem dX0_sizeOf_22 : decode cX0_sizeOf 22 = .ok (.iinc 2 1, 3) := by decide +kernel
theorem dX0_sizeOf_25 : decode cX0_sizeOf 25 = .ok (.iinc 3 1, 3) := by decide +kernel
theorem dX0_sizeOf_28 : decode cX0_sizeOf 28 = .ok (.goto (-24), 3) := by decide +kernel
theorem dX0_sizeOf_31 : decode cX0_sizeOf 31 = .ok (.iload_n 2, 1) := by decide +kernel
theorem dX0_sizeOf_32 : decode cX0_sizeOf 32 = .ok (.ireturn, 1) := by decide +kernel
theorem dX0_countAll_0 : decode cX0_countAll 0 = .ok (.iconst 0, 1) := by decide +kernel
theorem dX0_countAll_1 : decode cX0_countAll 1 = .ok (.istore_n 1, 1) := by decide +kernel
theorem dX0_countAll_2 : decode cX0_countAll 2 = .ok (.iconst 0, 1) := by decide +kernel
theorem dX0_countAll_3 : decode cX0_countAll 3 = .ok (.istore_n 2, 1) := by decide +kernel
theorem dX0_countAll_4 : decode cX0_countAll 4 = .ok (.iload_n 2, 1) := by decide +kernel
theorem dX0_countAll_5 : decode cX0_countAll 5 = .ok (.bipush 49, 2) := by decide +kernel
theorem dX0_countAll_7 : decode cX0_countAll 7 = .ok (.if_icmp .ge 20, 3) := by decide +kernel
theorem dX0_countAll_10 : decode cX0_countAll 10 = .ok (.aload_n 0, 1) := by decide +kernel
theorem dX0_countAll_11 : decode cX0_countAll 11 = .ok (.iload_n 2, 1) := by decide +kernel
theorem dX0_countAll_12 : decode cX0_countAll 12 = .ok (.invokevirtual 61, 3) := by decide +kernel
theorem dX0_countAll_15 : decode cX0_countAll 15 = .ok (.ifCond .eq 6, 3) := by decide +kernel
theorem dX0_countAll_18 : decode cX0_countAll 18 = .ok (.iinc 1 1, 3) := by decide +kernel
theorem dX0_countAll_21 : decode cX0_countAll 21 = .ok (.iinc 2 1, 3) := by decide +kernel
theorem dX0_countAll_24 : decode cX0_countAll 24 = .ok (.goto (-20), 3) := by decide +kernel
theorem dX0_countAll_27 : decode cX0_countAll 27 = .ok (.iload_n 1, 1) := by decide +kernel
theorem dX0_countAll_28 : decode cX0_countAll 28 = .ok (.ireturn, 1) := by decide +kernel
theorem dX0_countLoose_0 : decode cX0_countLoose 0 = .ok (.iconst 0, 1) := by decide +kernel
theorem dX0_countLoose_1 : decode cX0_countLoose 1 = .ok (.istore_n 1, 1) := by decide +kernel
theorem dX0_countLoose_2 : decode cX0_countLoose 2 = .ok (.iconst 0, 1) := by decide +kernel
theorem dX0_countLoose_3 : decode cX0_countLoose 3 = .ok (.istore_n 2, 1) := by decide +kernel
theorem dX0_countLoose_4 : decode cX0_countLoose 4 = .ok (.iload_n 2, 1) := by decide +kernel
theorem dX0_countLoose_5 : decode cX0_countLoose 5 = .ok (.bipush 49, 2) := by decide +kernel
theorem dX0_countLoose_7 : decode cX0_countLoose 7 = .ok (.if_icmp .ge 20, 3) := by decide +kernel
theorem dX0_countLoose_10 : decode cX0_countLoose 10 = .ok (.aload_n 0, 1) := by decide +kernel
theorem dX0_countLoose_11 : decode cX0_countLoose 11 = .ok (.iload_n 2, 1) := by decide +kernel
theorem dX0_countLoose_12 : decode cX0_countLoose 12 = .ok (.invokevirtual 64, 3) := by decide +kernel
theorem dX0_countLoose_15 : decode cX0_countLoose 15 = .ok (.ifCond .eq 6, 3) := by decide +kernel
theorem dX0_countLoose_18 : decode cX0_countLoose 18 = .ok (.iinc 1 1, 3) := by decide +kernel
theorem dX0_countLoose_21 : decode cX0_countLoose 21 = .ok (.iinc 2 1, 3) := by decide +kernel
theorem dX0_countLoose_24 : decode cX0_countLoose 24 = .ok (.goto (-20), 3) := by decide +kernel
theorem dX0_countLoose_27 : decode cX0_countLoose 27 = .ok (.iload_n 1, 1) := by decide +kernel
theorem dX0_countLoose_28 : decode cX0_countLoose 28 = .ok (.ireturn, 1) := by decide +kernel
theorem dX0_forget_0 : decode cX0_forget 0 = .ok (.iconst 0, 1) := by decide +kernel
theorem dX0_forget_1 : decode cX0_forget 1 = .ok (.istore_n 2, 1) := by decide +kernel
theorem dX0_forget_2 : decode cX0_forget 2 = .ok (.iload_n 2, 1) := by decide +kernel
theorem dX0_forget_3 : decode cX0_forget 3 = .ok (.bipush 49, 2) := by decide +kernel
theorem dX0_forget_5 : decode cX0_forget 5 = .ok (.if_icmp .ge 30, 3) := by decide +kernel
theorem dX0_forget_8 : decode cX0_forget 8 = .ok (.aload_n 0, 1) := by decide +kernel
theorem dX0_forget_9 : decode cX0_forget 9 = .ok (.getfield 14, 3) := by decide +kernel
theorem dX0_forget_12 : decode cX0_forget 12 = .ok (.iload_n 2, 1) := by decide +kernel
theorem dX0_forget_13 : decode cX0_forget 13 = .ok (.invokevirtual 39, 3) := by decide +kernel
theorem dX0_forget_16 : decode cX0_forget 16 = .ok (.iload_n 1, 1) := by decide +kernel
theorem dX0_forget_17 : decode cX0_forget 17 = .ok (.if_icmp .ne 12, 3) := by decide +kernel
theorem dX0_forget_20 : decode cX0_forget 20 = .ok (.aload_n 0, 1) := by decide +kernel
theorem dX0_forget_21 : decode cX0_forget 21 = .ok (.getfield 14, 3) := by decide +kernel
theorem dX0_forget_24 : decode cX0_forget 24 = .ok (.iload_n 2, 1) := by decide +kernel
theorem dX0_forget_25 : decode cX0_forget 25 = .ok (.iconst (-1), 1) := by decide +kernel
theorem dX0_forget_26 : decode cX0_forget 26 = .ok (.invokevirtual 47, 3) := by decide +kernel
theorem dX0_forget_29 : decode cX0_forget 29 = .ok (.iinc 2 1, 3) := by decide +kernel
theorem dX0_forget_32 : decode cX0_forget 32 = .ok (.goto (-30), 3) := by decide +kernel
theorem dX0_forget_35 : decode cX0_forget 35 = .ok (.return_, 1) := by decide +kernel
theorem dX1_init_0 : decode cX1_init 0 = .ok (.aload_n 0, 1) := by decide +kernel
theorem dX1_init_1 : decode cX1_init 1 = .ok (.invokespecial 5, 3) := by decide +kernel
theorem dX1_init_4 : decode cX1_init 4 = .ok (.aload_n 0, 1) := by decide +kernel
theorem dX1_init_5 : decode cX1_init 5 = .ok (.iconst 2, 1) := by decide +kernel
theorem dX1_init_6 : decode cX1_init 6 = .ok (.putfield 11, 3) := by decide +kernel
theorem dX1_init_9 : decode cX1_init 9 = .ok (.aload_n 0, 1) := by decide +kernel
theorem dX1_init_10 : decode cX1_init 10 = .ok (.iconst 2, 1) := by decide +kernel
theorem dX1_init_11 : decode cX1_init 11 = .ok (.putfield 15, 3) := by decide +kernel
theorem dX1_init_14 : decode cX1_init 14 = .ok (.aload_n 0, 1) := by decide +kernel
theorem dX1_init_15 : decode cX1_init 15 = .ok (.iconst 0, 1) := by decide +kernel
theorem dX1_init_16 : decode cX1_init 16 = .ok (.putfield 18, 3) := by decide +kernel
theorem dX1_init_19 : decode cX1_init 19 = .ok (.aload_n 0, 1) := by decide +kernel
theorem dX1_init_20 : decode cX1_init 20 = .ok (.iconst 0, 1) := by decide +kernel
theorem dX1_init_21 : decode cX1_init 21 = .ok (.putfield 21, 3) := by decide +kernel
theorem dX1_init_24 : decode cX1_init 24 = .ok (.aload_n 0, 1) := by decide +kernel
theorem dX1_init_25 : decode cX1_init 25 = .ok (.iconst 0, 1) := by decide +kernel
theorem dX1_init_26 : decode cX1_init 26 = .ok (.putfield 24, 3) := by decide +kernel
theorem dX1_init_29 : decode cX1_init 29 = .ok (.aload_n 0, 1) := by decide +kernel
theorem dX1_init_30 : decode cX1_init 30 = .ok (.iconst 0, 1) := by decide +kernel
theorem dX1_init_31 : decode cX1_init 31 = .ok (.putfield 27, 3) := by decide +kernel
theorem dX1_init_34 : decode cX1_init 34 = .ok (.aload_n 0, 1) := by decide +kernel
theorem dX1_init_35 : decode cX1_init 35 = .ok (.iconst 0, 1) := by decide +kernel
theorem dX1_init_36 : decode cX1_init 36 = .ok (.putfield 30, 3) := by decide +kernel
theorem dX1_init_39 : decode cX1_init 39 = .ok (.aload_n 0, 1) := by decide +kernel
theorem dX1_init_40 : decode cX1_init 40 = .ok (.iconst 0, 1) := by decide +kernel
theorem dX1_init_41 : decode cX1_init 41 = .ok (.putfield 33, 3) := by decide +kernel
theorem dX1_init_44 : decode cX1_init 44 = .ok (.aload_n 0, 1) := by decide +kernel
theorem dX1_init_45 : decode cX1_init 45 = .ok (.new 36, 3) := by decide +kernel
theorem dX1_init_48 : decode cX1_init 48 = .ok (.dup, 1) := by decide +kernel
theorem dX1_init_49 : decode cX1_init 49 = .ok (.bipush 49, 2) := by decide +kernel
theorem dX1_init_51 : decode cX1_init 51 = .ok (.invokespecial 38, 3) := by decide +kernel
theorem dX1_init_54 : decode cX1_init 54 = .ok (.putfield 41, 3) := by decide +kernel
theorem dX1_init_57 : decode cX1_init 57 = .ok (.aload_n 0, 1) := by decide +kernel
theorem dX1_init_58 : decode cX1_init 58 = .ok (.new 36, 3) := by decide +kernel
theorem dX1_init_61 : decode cX1_init 61 = .ok (.dup, 1) := by decide +kernel
theorem dX1_init_62 : decode cX1_init 62 = .ok (.bipush 106, 2) := by decide +kernel
theorem dX1_init_64 : decode cX1_init 64 = .ok (.invokespecial 38, 3) := by decide +kernel
theorem dX1_init_67 : decode cX1_init 67 = .ok (.putfield 45, 3) := by decide +kernel
theorem dX1_init_70 : decode cX1_init 70 = .ok (.aload_n 0, 1) := by decide +kernel
theorem dX1_init_71 : decode cX1_init 71 = .ok (.new 36, 3) := by decide +kernel
theorem dX1_init_74 : decode cX1_init 74 = .ok (.dup, 1) := by decide +kernel
theorem dX1_init_75 : decode cX1_init 75 = .ok (.bipush 120, 2) := by decide +kernel
theorem dX1_init_77 : decode cX1_init 77 = .ok (.invokespecial 38, 3) := by decide +kernel
theorem dX1_init_80 : decode cX1_init 80 = .ok (.putfield 48, 3) := by decide +kernel
theorem dX1_init_83 : decode cX1_init 83 = .ok (.aload_n 0, 1) := by decide +kernel
theorem dX1_init_84 : decode cX1_init 84 = .ok (.new 36, 3) := by decide +kernel
theorem dX1_init_87 : decode cX1_init 87 = .ok (.dup, 1) := by decide +kernel
theorem dX1_init_88 : decode cX1_init 88 = .ok (.bipush 49, 2) := by decide +kernel
theorem dX1_init_90 : decode cX1_init 90 = .ok (.invokespecial 38, 3) := by decide +kernel
theorem dX1_init_93 : decode cX1_init 93 = .ok (.putfield 51, 3) := by decide +kernel
theorem dX1_init_96 : decode cX1_init 96 = .ok (.return_, 1) := by decide +kernel
theorem dX1_copyFrom_0 : decode cX1_copyFrom 0 = .ok (.aload_n 0, 1) := by decide +kernel
theorem dX1_copyFrom_1 : decode cX1_copyFrom 1 = .ok (.aload_n 1, 1) := by decide +kernel
theorem dX1_copyFrom_2 : decode cX1_copyFrom 2 = .ok (.getfield 11, 3) := by decide +kernel
theorem dX1_copyFrom_5 : decode cX1_copyFrom 5 = .ok (.putfield 11, 3) := by decide +kernel
theorem dX1_copyFrom_8 : decode cX1_copyFrom 8 = .ok (.aload_n 0, 1) := by decide +kernel
theorem dX1_copyFrom_9 : decode cX1_copyFrom 9 = .ok (.aload_n 1, 1) := by decide +kernel
theorem dX1_copyFrom_10 : decode cX1_copyFrom 10 = .ok (.getfield 15, 3) := by decide +kernel
theorem dX1_copyFrom_13 : decode cX1_copyFrom 13 = .ok (.putfield 15, 3) := by decide +kernel
theorem dX1_copyFrom_16 : decode cX1_copyFrom 16 = .ok (.aload_n 0, 1) := by decide +kernel
theorem dX1_copyFrom_17 : decode cX1_copyFrom 17 = .ok (.aload_n 1, 1) := by decide +kernel
theorem dX1_copyFrom_18 : decode cX1_copyFrom 18 = .ok (.getfield 18, 3) := by decide +kernel
theorem dX1_copyFrom_21 : decode cX1_copyFrom 21 = .ok (.putfield 18, 3) := by decide +kernel
theorem dX1_copyFrom_24 : decode cX1_copyFrom 24 = .ok (.aload_n 0, 1) := by decide +kernel
theorem dX1_copyFrom_25 : decode cX1_copyFrom 25 = .ok (.aload_n 1, 1) := by decide +kernel
theorem dX1_copyFrom_26 : decode cX1_copyFrom 26 = .ok (.getfield 21, 3) := by decide +kernel
theorem dX1_copyFrom_29 : decode cX1_copyFrom 29 = .ok (.putfield 21, 3) := by decide +kernel
theorem dX1_copyFrom_32 : decode cX1_copyFrom 32 = .ok (.aload_n 0, 1) := by decide +kernel
theorem dX1_copyFrom_33 : decode cX1_copyFrom 33 = .ok (.aload_n 1, 1) := by decide +kernel
theorem dX1_copyFrom_34 : decode cX1_copyFrom 34 = .ok (.getfield 24, 3) := by decide +kernel
theorem dX1_copyFrom_37 : decode cX1_copyFrom 37 = .ok (.putfield 24, 3) := by decide +kernel
theorem dX1_copyFrom_40 : decode cX1_copyFrom 40 = .ok (.aload_n 0, 1) := by decide +kernel
theorem dX1_copyFrom_41 : decode cX1_copyFrom 41 = .ok (.aload_n 1, 1) := by decide +kernel
theorem dX1_copyFrom_42 : decode cX1_copyFrom 42 = .ok (.getfield 27, 3) := by decide +kernel
theorem dX1_copyFrom_45 : decode cX1_copyFrom 45 = .ok (.putfield 27, 3) := by decide +kernel
theorem dX1_copyFrom_48 : decode cX1_copyFrom 48 = .ok (.aload_n 0, 1) := by decide +kernel
theorem dX1_copyFrom_49 : decode cX1_copyFrom 49 = .ok (.aload_n 1, 1) := by decide +kernel
theorem dX1_copyFrom_50 : decode cX1_copyFrom 50 = .ok (.getfield 30, 3) := by decide +kernel
theorem dX1_copyFrom_53 : decode cX1_copyFrom 53 = .ok (.putfield 30, 3) := by decide +kernel
theorem dX1_copyFrom_56 : decode cX1_copyFrom 56 = .ok (.aload_n 0, 1) := by decide +kernel
theorem dX1_copyFrom_57 : decode cX1_copyFrom 57 = .ok (.aload_n 1, 1) := by decide +kernel
theorem dX1_copyFrom_58 : decode cX1_copyFrom 58 = .ok (.getfield 33, 3) := by decide +kernel
theorem dX1_copyFrom_61 : decode cX1_copyFrom 61 = .ok (.putfield 33, 3) := by decide +kernel
theorem dX1_copyFrom_64 : decode cX1_copyFrom 64 = .ok (.aload_n 0, 1) := by decide +kernel
theorem dX1_copyFrom_65 : decode cX1_copyFrom 65 = .ok (.getfield 41, 3) := by decide +kernel
theorem dX1_copyFrom_68 : decode cX1_copyFrom 68 = .ok (.aload_n 1, 1) := by decide +kernel
theorem dX1_copyFrom_69 : decode cX1_copyFrom 69 = .ok (.getfield 41, 3) := by decide +kernel
theorem dX1_copyFrom_72 : decode cX1_copyFrom 72 = .ok (.invokevirtual 54, 3) := by decide +kernel
theorem dX1_copyFrom_75 : decode cX1_copyFrom 75 = .ok (.aload_n 0, 1) := by decide +kernel
theorem dX1_copyFrom_76 : decode cX1_copyFrom 76 = .ok (.getfield 45, 3) := by decide +kernel
theorem dX1_copyFrom_79 : decode cX1_copyFrom 79 = .ok (.aload_n 1, 1) := by decide +kernel
theorem dX1_copyFrom_80 : decode cX1_copyFrom 80 = .ok (.getfield 45, 3) := by decide +kernel
theorem dX1_copyFrom_83 : decode cX1_copyFrom 83 = .ok (.invokevirtual 54, 3) := by decide +kernel
theorem dX1_copyFrom_86 : decode cX1_copyFrom 86 = .ok (.aload_n 0, 1) := by decide +kernel
theorem dX1_copyFrom_87 : decode cX1_copyFrom 87 = .ok (.getfield 48, 3) := by decide +kernel
theorem dX1_copyFrom_90 : decode cX1_copyFrom 90 = .ok (.aload_n 1, 1) := by decide +kernel
theorem dX1_copyFrom_91 : decode cX1_copyFrom 91 = .ok (.getfield 48, 3) := by decide +kernel
theorem dX1_copyFrom_94 : decode cX1_copyFrom 94 = .ok (.invokevirtual 54, 3) := by decide +kernel
theorem dX1_copyFrom_97 : decode cX1_copyFrom 97 = .ok (.return_, 1) := by decide +kernel
theorem dX1_beginAnew_0 : decode cX1_beginAnew 0 = .ok (.aload_n 0, 1) := by decide +kernel
theorem dX1_beginAnew_1 : decode cX1_beginAnew 1 = .ok (.iload_n 1, 1) := by decide +kernel
theorem dX1_beginAnew_2 : decode cX1_beginAnew 2 = .ok (.putfield 11, 3) := by decide +kernel
theorem dX1_beginAnew_5 : decode cX1_beginAnew 5 = .ok (.aload_n 0, 1) := by decide +kernel
theorem dX1_beginAnew_6 : decode cX1_beginAnew 6 = .ok (.iload_n 2, 1) := by decide +kernel
theorem dX1_beginAnew_7 : decode cX1_beginAnew 7 = .ok (.putfield 15, 3) := by decide +kernel
theorem dX1_beginAnew_10 : decode cX1_beginAnew 10 = .ok (.aload_n 0, 1) := by decide +kernel
theorem dX1_beginAnew_11 : decode cX1_beginAnew 11 = .ok (.iconst 0, 1) := by decide +kernel
theorem dX1_beginAnew_12 : decode cX1_beginAnew 12 = .ok (.putfield 21, 3) := by decide +kernel
theorem dX1_beginAnew_15 : decode cX1_beginAnew 15 = .ok (.aload_n 0, 1) := by decide +kernel
theorem dX1_beginAnew_16 : decode cX1_beginAnew 16 = .ok (.iconst 0, 1) := by decide +kernel
theorem dX1_beginAnew_17 : decode cX1_beginAnew 17 = .ok (.putfield 24, 3) := by decide +kernel
theorem dX1_beginAnew_20 : decode cX1_beginAnew 20 = .ok (.aload_n 0, 1) := by decide +kernel
theorem dX1_beginAnew_21 : decode cX1_beginAnew 21 = .ok (.iconst 0, 1) := by decide +kernel
theorem dX1_beginAnew_22 : decode cX1_beginAnew 22 = .ok (.putfield 27, 3) := by decide +kernel
theorem dX1_beginAnew_25 : decode cX1_beginAnew 25 = .ok (.aload_n 0, 1) := by decide +kernel
theorem dX1_beginAnew_26 : decode cX1_beginAnew 26 = .ok (.iconst 0, 1) := by decide +kernel
theorem dX1_beginAnew_27 : decode cX1_beginAnew 27 = .ok (.putfield 30, 3) := by decide +kernel
theorem dX1_beginAnew_30 : decode cX1_beginAnew 30 = .ok (.aload_n 0, 1) := by decide +kernel
theorem dX1_beginAnew_31 : decode cX1_beginAnew 31 = .ok (.iconst 0, 1) := by decide +kernel
theorem dX1_beginAnew_32 : decode cX1_beginAnew 32 = .ok (.putfield 33, 3) := by decide +kernel
theorem dX1_beginAnew_35 : decode cX1_beginAnew 35 = .ok (.aload_n 0, 1) := by decide +kernel
theorem dX1_beginAnew_36 : decode cX1_beginAnew 36 = .ok (.getfield 41, 3) := by decide +kernel
theorem dX1_beginAnew_39 : decode cX1_beginAnew 39 = .ok (.iconst 0, 1) := by decide +kernel
theorem dX1_beginAnew_40 : decode cX1_beginAnew 40 = .ok (.invokevirtual 58, 3) := by decide +kernel
theorem dX1_beginAnew_43 : decode cX1_beginAnew 43 = .ok (.aload_n 0, 1) := by decide +kernel
theorem dX1_beginAnew_44 : decode cX1_beginAnew 44 = .ok (.getfield 45, 3) := by decide +kernel
theorem dX1_beginAnew_47 : decode cX1_beginAnew 47 = .ok (.iconst 0, 1) := by decide +kernel
theorem dX1_beginAnew_48 : decode cX1_beginAnew 48 = .ok (.invokevirtual 58, 3) := by decide +kernel
theorem dX1_beginAnew_51 : decode cX1_beginAnew 51 = .ok (.aload_n 0, 1) := by decide +kernel
theorem dX1_beginAnew_52 : decode cX1_beginAnew 52 = .ok (.getfield 48, 3) := by decide +kernel
theorem dX1_beginAnew_55 : decode cX1_beginAnew 55 = .ok (.iconst 0, 1) := by decide +kernel
theorem dX1_beginAnew_56 : decode cX1_beginAnew 56 = .ok (.invokevirtual 58, 3) := by decide +kernel
theorem dX1_beginAnew_59 : decode cX1_beginAnew 59 = .ok (.return_, 1) := by decide +kernel
theorem dX1_add_0 : decode cX1_add 0 = .ok (.aload_n 0, 1) := by decide +kernel
theorem dX1_add_1 : decode cX1_add 1 = .ok (.getfield 41, 3) := by decide +kernel
theorem dX1_add_4 : decode cX1_add 4 = .ok (.iload_n 1, 1) := by decide +kernel
theorem dX1_add_5 : decode cX1_add 5 = .ok (.aload_n 0, 1) := by decide +kernel
theorem dX1_add_6 : decode cX1_add 6 = .ok (.getfield 41, 3) := by decide +kernel
theorem dX1_add_9 : decode cX1_add 9 = .ok (.iload_n 1, 1) := by decide +kernel
theorem dX1_add_10 : decode cX1_add 10 = .ok (.invokevirtual 61, 3) := by decide +kernel
theorem dX1_add_13 : decode cX1_add 13 = .ok (.iload_n 2, 1) := by decide +kernel
theorem dX1_add_14 : decode cX1_add 14 = .ok (.iadd, 1) := by decide +kernel
theorem dX1_add_15 : decode cX1_add 15 = .ok (.invokevirtual 65, 3) := by decide +kernel
theorem dX1_add_18 : decode cX1_add 18 = .ok (.aload_n 0, 1) := by decide +kernel
theorem dX1_add_19 : decode cX1_add 19 = .ok (.dup, 1) := by decide +kernel
theorem dX1_add_20 : decode cX1_add 20 = .ok (.getfield 24, 3) := by decide +kernel
theorem dX1_add_23 : decode cX1_add 23 = .ok (.iload_n 2, 1) := by decide +kernel
theorem dX1_add_24 : decode cX1_add 24 = .ok (.iadd, 1) := by decide +kernel
theorem dX1_add_25 : decode cX1_add 25 = .ok (.putfield 24, 3) := by decide +kernel
theorem dX1_add_28 : decode cX1_add 28 = .ok (.return_, 1) := by decide +kernel
theorem dX1_addEverywhere_0 : decode cX1_addEverywhere 0 = .ok (.iconst 0, 1) := by decide +kernel
theorem dX1_addEverywhere_1 : decode cX1_addEverywhere 1 = .ok (.istore_n 2, 1) := by decide +kernel
theorem dX1_addEverywhere_2 : decode cX1_addEverywhere 2 = .ok (.iload_n 2, 1) := by decide +kernel
theorem dX1_addEverywhere_3 : decode cX1_addEverywhere 3 = .ok (.aload_n 0, 1) := by decide +kernel
theorem dX1_addEverywhere_4 : decode cX1_addEverywhere 4 = .ok (.invokevirtual 69, 3) := by decide +kernel
theorem dX1_addEverywhere_7 : decode cX1_addEverywhere 7 = .ok (.if_icmp .ge 15, 3) := by decide +kernel
theorem dX1_addEverywhere_10 : decode cX1_addEverywhere 10 = .ok (.aload_n 0, 1) := by decide +kernel
theorem dX1_addEverywhere_11 : decode cX1_addEverywhere 11 = .ok (.iload_n 2, 1) := by decide +kernel
theorem dX1_addEverywhere_12 : decode cX1_addEverywhere 12 = .ok (.iload_n 1, 1) := by decide +kernel
theorem dX1_addEverywhere_13 : decode cX1_addEverywhere 13 = .ok (.invokevirtual 73, 3) := by decide +kernel
theorem dX1_addEverywhere_16 : decode cX1_addEverywhere 16 = .ok (.iinc 2 1, 3) := by decide +kernel
theorem dX1_addEverywhere_19 : decode cX1_addEverywhere 19 = .ok (.goto (-17), 3) := by decide +kernel
theorem dX1_addEverywhere_22 : decode cX1_addEverywhere 22 = .ok (.return_, 1) := by decide +kernel
theorem dX1_cellCount_0 : decode cX1_cellCount 0 = .ok (.aload_n 0, 1) := by decide +kernel
theorem dX1_cellCount_1 : decode cX1_cellCount 1 = .ok (.getfield 11, 3) := by decide +kernel
theorem dX1_cellCount_4 : decode cX1_cellCount 4 = .ok (.aload_n 0, 1) := by decide +kernel
theorem dX1_cellCount_5 : decode cX1_cellCount 5 = .ok (.getfield 15, 3) := by decide +kernel
theorem dX1_cellCount_8 : decode cX1_cellCount 8 = .ok (.imul, 1) := by decide +kernel
theorem dX1_cellCount_9 : decode cX1_cellCount 9 = .ok (.ireturn, 1) := by decide +kernel
theorem dX1_rowOf_0 : decode cX1_rowOf 0 = .ok (.aload_n 0, 1) := by decide +kernel
theorem dX1_rowOf_1 : decode cX1_rowOf 1 = .ok (.getfield 11, 3) := by decide +kernel
theorem dX1_rowOf_4 : decode cX1_rowOf 4 = .ok (.ifCond .le 12, 3) := by decide +kernel
theorem dX1_rowOf_7 : decode cX1_rowOf 7 = .ok (.iload_n 1, 1) := by decide +kernel
theorem dX1_rowOf_8 : decode cX1_rowOf 8 = .ok (.aload_n 0, 1) := by decide +kernel
theorem dX1_rowOf_9 : decode cX1_rowOf 9 = .ok (.getfield 11, 3) := by decide +kernel
theorem dX1_rowOf_12 : decode cX1_rowOf 12 = .ok (.idiv, 1) := by decide +kernel
theorem dX1_rowOf_13 : decode cX1_rowOf 13 = .ok (.goto 4, 3) := by decide +kernel
theorem dX1_rowOf_16 : decode cX1_rowOf 16 = .ok (.iconst 0, 1) := by decide +kernel
theorem dX1_rowOf_17 : decode cX1_rowOf 17 = .ok (.ireturn, 1) := by decide +kernel
theorem dX1_columnOf_0 : decode cX1_columnOf 0 = .ok (.aload_n 0, 1) := by decide +kernel
theorem dX1_columnOf_1 : decode cX1_columnOf 1 = .ok (.getfield 11, 3) := by decide +kernel
theorem dX1_columnOf_4 : decode cX1_columnOf 4 = .ok (.ifCond .le 12, 3) := by decide +kernel
theorem dX1_columnOf_7 : decode cX1_columnOf 7 = .ok (.iload_n 1, 1) := by decide +kernel
theorem dX1_columnOf_8 : decode cX1_columnOf 8 = .ok (.aload_n 0, 1) := by decide +kernel
theorem dX1_columnOf_9 : decode cX1_columnOf 9 = .ok (.getfield 11, 3) := by decide +kernel
theorem dX1_columnOf_12 : decode cX1_columnOf 12 = .ok (.irem, 1) := by decide +kernel
theorem dX1_columnOf_13 : decode cX1_columnOf 13 = .ok (.goto 4, 3) := by decide +kernel
theorem dX1_columnOf_16 : decode cX1_columnOf 16 = .ok (.iconst 0, 1) := by decide +kernel
theorem dX1_columnOf_17 : decode cX1_columnOf 17 = .ok (.ireturn, 1) := by decide +kernel
theorem dX1_isIce_0 : decode cX1_isIce 0 = .ok (.aload_n 0, 1) := by decide +kernel
theorem dX1_isIce_1 : decode cX1_isIce 1 = .ok (.getfield 41, 3) := by decide +kernel
theorem dX1_isIce_4 : decode cX1_isIce 4 = .ok (.iload_n 1, 1) := by decide +kernel
theorem dX1_isIce_5 : decode cX1_isIce 5 = .ok (.invokevirtual 61, 3) := by decide +kernel
theorem dX1_isIce_8 : decode cX1_isIce 8 = .ok (.ifCond .le 7, 3) := by decide +kernel
theorem dX1_isIce_11 : decode cX1_isIce 11 = .ok (.iconst 1, 1) := by decide +kernel
theorem dX1_isIce_12 : decode cX1_isIce 12 = .ok (.goto 4, 3) := by decide +kernel
theorem dX1_isIce_15 : decode cX1_isIce 15 = .ok (.iconst 0, 1) := by decide +kernel
theorem dX1_isIce_16 : decode cX1_isIce 16 = .ok (.ireturn, 1) := by decide +kernel
theorem dX1_iceCells_0 : decode cX1_iceCells 0 = .ok (.iconst 0, 1) := by decide +kernel
theorem dX1_iceCells_1 : decode cX1_iceCells 1 = .ok (.istore_n 1, 1) := by decide +kernel
theorem dX1_iceCells_2 : decode cX1_iceCells 2 = .ok (.iconst 0, 1) := by decide +kernel
theorem dX1_iceCells_3 : decode cX1_iceCells 3 = .ok (.istore_n 2, 1) := by decide +kernel
theorem dX1_iceCells_4 : decode cX1_iceCells 4 = .ok (.iload_n 2, 1) := by decide +kernel
theorem dX1_iceCells_5 : decode cX1_iceCells 5 = .ok (.aload_n 0, 1) := by decide +kernel
theorem dX1_iceCells_6 : decode cX1_iceCells 6 = .ok (.invokevirtual 69, 3) := by decide +kernel
theorem dX1_iceCells_9 : decode cX1_iceCells 9 = .ok (.if_icmp .ge 20, 3) := by decide +kernel
theorem dX1_iceCells_12 : decode cX1_iceCells 12 = .ok (.aload_n 0, 1) := by decide +kernel
theorem dX1_iceCells_13 : decode cX1_iceCells 13 = .ok (.iload_n 2, 1) := by decide +kernel
theorem dX1_iceCells_14 : decode cX1_iceCells 14 = .ok (.invokevirtual 76, 3) := by decide +kernel
theorem dX1_iceCells_17 : decode cX1_iceCells 17 = .ok (.ifCond .eq 6, 3) := by decide +kernel
theorem dX1_iceCells_20 : decode cX1_iceCells 20 = .ok (.iinc 1 1, 3) := by decide +kernel
theorem dX1_iceCells_23 : decode cX1_iceCells 23 = .ok (.iinc 2 1, 3) := by decide +kernel
theorem dX1_iceCells_26 : decode cX1_iceCells 26 = .ok (.goto (-22), 3) := by decide +kernel
theorem dX1_iceCells_29 : decode cX1_iceCells 29 = .ok (.iload_n 1, 1) := by decide +kernel
theorem dX1_iceCells_30 : decode cX1_iceCells 30 = .ok (.ireturn, 1) := by decide +kernel
theorem dX1_beside_0 : decode cX1_beside 0 = .ok (.iload_n 2, 1) := by decide +kernel
theorem dX1_beside_1 : decode cX1_beside 1 = .ok (.tableswitch 112 0 3 #[31, 53, 77, 96], 31) := by decide +kernel
theorem dX1_beside_32 : decode cX1_beside 32 = .ok (.aload_n 0, 1) := by decide +kernel
theorem dX1_beside_33 : decode cX1_beside 33 = .ok (.iload_n 1, 1) := by decide +kernel
theorem dX1_beside_34 : decode cX1_beside 34 = .ok (.invokevirtual 80, 3) := by decide +kernel
theorem dX1_beside_37 : decode cX1_beside 37 = .ok (.aload_n 0, 1) := by decide +kernel
theorem dX1_beside_38 : decode cX1_beside 38 = .ok (.getfield 11, 3) := by decide +kernel
theorem dX1_beside_41 : decode cX1_beside 41 = .ok (.iconst 1, 1) := by decide +kernel
theorem dX1_beside_42 : decode cX1_beside 42 = .ok (.isub, 1) := by decide +kernel
theorem dX1_beside_43 : decode cX1_beside 43 = .ok (.if_icmp .ge 9, 3) := by decide +kernel
theorem dX1_beside_46 : decode cX1_beside 46 = .ok (.iload_n 1, 1) := by decide +kernel
theorem dX1_beside_47 : decode cX1_beside 47 = .ok (.iconst 1, 1) := by decide +kernel
theorem dX1_beside_48 : decode cX1_beside 48 = .ok (.iadd, 1) := by decide +kernel
theorem dX1_beside_49 : decode cX1_beside 49 = .ok (.goto 4, 3) := by decide +kernel
theorem dX1_beside_52 : decode cX1_beside 52 = .ok (.iconst (-1), 1) := by decide +kernel
theorem dX1_beside_53 : decode cX1_beside 53 = .ok (.ireturn, 1) := by decide +kernel
theorem dX1_beside_54 : decode cX1_beside 54 = .ok (.iload_n 1, 1) := by decide +kernel
theorem dX1_beside_55 : decode cX1_beside 55 = .ok (.aload_n 0, 1) := by decide +kernel
theorem dX1_beside_56 : decode cX1_beside 56 = .ok (.getfield 11, 3) := by decide +kernel
theorem dX1_beside_59 : decode cX1_beside 59 = .ok (.iadd, 1) := by decide +kernel
theorem dX1_beside_60 : decode cX1_beside 60 = .ok (.aload_n 0, 1) := by decide +kernel
theorem dX1_beside_61 : decode cX1_beside 61 = .ok (.invokevirtual 69, 3) := by decide +kernel
theorem dX1_beside_64 : decode cX1_beside 64 = .ok (.if_icmp .ge 12, 3) := by decide +kernel
theorem dX1_beside_67 : decode cX1_beside 67 = .ok (.iload_n 1, 1) := by decide +kernel
theorem dX1_beside_68 : decode cX1_beside 68 = .ok (.aload_n 0, 1) := by decide +kernel
theorem dX1_beside_69 : decode cX1_beside 69 = .ok (.getfield 11, 3) := by decide +kernel
theorem dX1_beside_72 : decode cX1_beside 72 = .ok (.iadd, 1) := by decide +kernel
theorem dX1_beside_73 : decode cX1_beside 73 = .ok (.goto 4, 3) := by decide +kernel
theorem dX1_beside_76 : decode cX1_beside 76 = .ok (.iconst (-1), 1) := by decide +kernel
theorem dX1_beside_77 : decode cX1_beside 77 = .ok (.ireturn, 1) := by decide +kernel
theorem dX1_beside_78 : decode cX1_beside 78 = .ok (.iload_n 1, 1) := by decide +kernel
theorem dX1_beside_79 : decode cX1_beside 79 = .ok (.aload_n 0, 1) := by decide +kernel
theorem dX1_beside_80 : decode cX1_beside 80 = .ok (.getfield 11, 3) := by decide +kernel
theorem dX1_beside_83 : decode cX1_beside 83 = .ok (.if_icmp .lt 12, 3) := by decide +kernel
theorem dX1_beside_86 : decode cX1_beside 86 = .ok (.iload_n 1, 1) := by decide +kernel
theorem dX1_beside_87 : decode cX1_beside 87 = .ok (.aload_n 0, 1) := by decide +kernel
theorem dX1_beside_88 : decode cX1_beside 88 = .ok (.getfield 11, 3) := by decide +kernel
theorem dX1_beside_91 : decode cX1_beside 91 = .ok (.isub, 1) := by decide +kernel
theorem dX1_beside_92 : decode cX1_beside 92 = .ok (.goto 4, 3) := by decide +kernel
theorem dX1_beside_95 : decode cX1_beside 95 = .ok (.iconst (-1), 1) := by decide +kernel
theorem dX1_beside_96 : decode cX1_beside 96 = .ok (.ireturn, 1) := by decide +kernel
theorem dX1_beside_97 : decode cX1_beside 97 = .ok (.aload_n 0, 1) := by decide +kernel
theorem dX1_beside_98 : decode cX1_beside 98 = .ok (.iload_n 1, 1) := by decide +kernel
theorem dX1_beside_99 : decode cX1_beside 99 = .ok (.invokevirtual 80, 3) := by decide +kernel
theorem dX1_beside_102 : decode cX1_beside 102 = .ok (.ifCond .le 9, 3) := by decide +kernel
theorem dX1_beside_105 : decode cX1_beside 105 = .ok (.iload_n 1, 1) := by decide +kernel
theorem dX1_beside_106 : decode cX1_beside 106 = .ok (.iconst 1, 1) := by decide +kernel
theorem dX1_beside_107 : decode cX1_beside 107 = .ok (.isub, 1) := by decide +kernel
theorem dX1_beside_108 : decode cX1_beside 108 = .ok (.goto 4, 3) := by decide +kernel
theorem dX1_beside_111 : decode cX1_beside 111 = .ok (.iconst (-1), 1) := by decide +kernel
theorem dX1_beside_112 : decode cX1_beside 112 = .ok (.ireturn, 1) := by decide +kernel
theorem dX1_beside_113 : decode cX1_beside 113 = .ok (.iconst (-1), 1) := by decide +kernel
theorem dX1_beside_114 : decode cX1_beside 114 = .ok (.ireturn, 1) := by decide +kernel
theorem dX1_canCut_0 : decode cX1_canCut 0 = .ok (.iload_n 2, 1) := by decide +kernel
theorem dX1_canCut_1 : decode cX1_canCut 1 = .ok (.iconst 2, 1) := by decide +kernel
theorem dX1_canCut_2 : decode cX1_canCut 2 = .ok (.if_icmp .eq 13, 3) := by decide +kernel
theorem dX1_canCut_5 : decode cX1_canCut 5 = .ok (.aload_n 0, 1) := by decide +kernel
theorem dX1_canCut_6 : decode cX1_canCut 6 = .ok (.iload_n 1, 1) := by decide +kernel
theorem dX1_canCut_7 : decode cX1_canCut 7 = .ok (.iload_n 2, 1) := by decide +kernel
theorem dX1_canCut_8 : decode cX1_canCut 8 = .ok (.invokevirtual 83, 3) := by decide +kernel
theorem dX1_canCut_11 : decode cX1_canCut 11 = .ok (.iconst (-1), 1) := by decide +kernel
theorem dX1_canCut_12 : decode cX1_canCut 12 = .ok (.if_icmp .eq 7, 3) := by decide +kernel
theorem dX1_canCut_15 : decode cX1_canCut 15 = .ok (.iconst 1, 1) := by decide +kernel
theorem dX1_canCut_16 : decode cX1_canCut 16 = .ok (.goto 4, 3) := by decide +kernel
theorem dX1_canCut_19 : decode cX1_canCut 19 = .ok (.iconst 0, 1) := by decide +kernel
theorem dX1_canCut_20 : decode cX1_canCut 20 = .ok (.ireturn, 1) := by decide +kernel
theorem dX1_cutPlace_0 : decode cX1_cutPlace 0 = .ok (.iload_n 2, 1) := by decide +kernel
theorem dX1_cutPlace_1 : decode cX1_cutPlace 1 = .ok (.tableswitch 50 0 3 #[31, 38, 50, 45], 31) := by decide +kernel
theorem dX1_cutPlace_32 : decode cX1_cutPlace 32 = .ok (.bipush 56, 2) := by decide +kernel
theorem dX1_cutPlace_34 : decode cX1_cutPlace 34 = .ok (.iload_n 1, 1) := by decide +kernel
theorem dX1_cutPlace_35 : decode cX1_cutPlace 35 = .ok (.iadd, 1) := by decide +kernel
theorem dX1_cutPlace_36 : decode cX1_cutPlace 36 = .ok (.iconst 1, 1) := by decide +kernel
theorem dX1_cutPlace_37 : decode cX1_cutPlace 37 = .ok (.iadd, 1) := by decide +kernel
theorem dX1_cutPlace_38 : decode cX1_cutPlace 38 = .ok (.ireturn, 1) := by decide +kernel
theorem dX1_cutPlace_39 : decode cX1_cutPlace 39 = .ok (.iload_n 1, 1) := by decide +kernel
theorem dX1_cutPlace_40 : decode cX1_cutPlace 40 = .ok (.aload_n 0, 1) := by decide +kernel
theorem dX1_cutPlace_41 : decode cX1_cutPlace 41 = .ok (.getfield 11, 3) := by decide +kernel
theorem dX1_cutPlace_44 : decode cX1_cutPlace 44 = .ok (.iadd, 1) := by decide +kernel
theorem dX1_cutPlace_45 : decode cX1_cutPlace 45 = .ok (.ireturn, 1) := by decide +kernel
theorem dX1_cutPlace_46 : decode cX1_cutPlace 46 = .ok (.bipush 56, 2) := by decide +kernel
theorem dX1_cutPlace_48 : decode cX1_cutPlace 48 = .ok (.iload_n 1, 1) := by decide +kernel
theorem dX1_cutPlace_49 : decode cX1_cutPlace 49 = .ok (.iadd, 1) := by decide +kernel
theorem dX1_cutPlace_50 : decode cX1_cutPlace 50 = .ok (.ireturn, 1) := by decide +kernel
theorem dX1_cutPlace_51 : decode cX1_cutPlace 51 = .ok (.iload_n 1, 1) := by decide +kernel
theorem dX1_cutPlace_52 : decode cX1_cutPlace 52 = .ok (.ireturn, 1) := by decide +kernel
theorem dX1_cutAt_0 : decode cX1_cutAt 0 = .ok (.aload_n 0, 1) := by decide +kernel
theorem dX1_cutAt_1 : decode cX1_cutAt 1 = .ok (.getfield 45, 3) := by decide +kernel
theorem dX1_cutAt_4 : decode cX1_cutAt 4 = .ok (.aload_n 0, 1) := by decide +kernel
theorem dX1_cutAt_5 : decode cX1_cutAt 5 = .ok (.iload_n 1, 1) := by decide +kernel
theorem dX1_cutAt_6 : decode cX1_cutAt 6 = .ok (.iload_n 2, 1) := by decide +kernel
theorem dX1_cutAt_7 : decode cX1_cutAt 7 = .ok (.invokevirtual 87, 3) := by decide +kernel
theorem dX1_cutAt_10 : decode cX1_cutAt 10 = .ok (.invokevirtual 61, 3) := by decide +kernel
theorem dX1_cutAt_13 : decode cX1_cutAt 13 = .ok (.ireturn, 1) := by decide +kernel
theorem dX1_cutSide_0 : decode cX1_cutSide 0 = .ok (.aload_n 0, 1) := by decide +kernel
theorem dX1_cutSide_1 : decode cX1_cutSide 1 = .ok (.iload_n 1, 1) := by decide +kernel
theorem dX1_cutSide_2 : decode cX1_cutSide 2 = .ok (.iload_n 2, 1) := by decide +kernel
theorem dX1_cutSide_3 : decode cX1_cutSide 3 = .ok (.invokevirtual 90, 3) := by decide +kernel
theorem dX1_cutSide_6 : decode cX1_cutSide 6 = .ok (.ifCond .eq 13, 3) := by decide +kernel
theorem dX1_cutSide_9 : decode cX1_cutSide 9 = .ok (.aload_n 0, 1) := by decide +kernel
theorem dX1_cutSide_10 : decode cX1_cutSide 10 = .ok (.iload_n 1, 1) := by decide +kernel
theorem dX1_cutSide_11 : decode cX1_cutSide 11 = .ok (.iload_n 2, 1) := by decide +kernel
theorem dX1_cutSide_12 : decode cX1_cutSide 12 = .ok (.invokevirtual 94, 3) := by decide +kernel
theorem dX1_cutSide_15 : decode cX1_cutSide 15 = .ok (.iconst 1, 1) := by decide +kernel
theorem dX1_cutSide_16 : decode cX1_cutSide 16 = .ok (.if_icmp .ne 5, 3) := by decide +kernel
theorem dX1_cutSide_19 : decode cX1_cutSide 19 = .ok (.iconst 0, 1) := by decide +kernel
theorem dX1_cutSide_20 : decode cX1_cutSide 20 = .ok (.ireturn, 1) := by decide +kernel
theorem dX1_cutSide_21 : decode cX1_cutSide 21 = .ok (.aload_n 0, 1) := by decide +kernel
theorem dX1_cutSide_22 : decode cX1_cutSide 22 = .ok (.getfield 45, 3) := by decide +kernel
theorem dX1_cutSide_25 : decode cX1_cutSide 25 = .ok (.aload_n 0, 1) := by decide +kernel
theorem dX1_cutSide_26 : decode cX1_cutSide 26 = .ok (.iload_n 1, 1) := by decide +kernel
theorem dX1_cutSide_27 : decode cX1_cutSide 27 = .ok (.iload_n 2, 1) := by decide +kernel
theorem dX1_cutSide_28 : decode cX1_cutSide 28 = .ok (.invokevirtual 87, 3) := by decide +kernel
theorem dX1_cutSide_31 : decode cX1_cutSide 31 = .ok (.iconst 1, 1) := by decide +kernel
theorem dX1_cutSide_32 : decode cX1_cutSide 32 = .ok (.invokevirtual 65, 3) := by decide +kernel
theorem dX1_cutSide_35 : decode cX1_cutSide 35 = .ok (.iconst 1, 1) := by decide +kernel
theorem dX1_cutSide_36 : decode cX1_cutSide 36 = .ok (.ireturn, 1) := by decide +kernel
theorem dX1_cutRectangle_0 : decode cX1_cutRectangle 0 = .ok (.iconst 0, 1) := by decide +kernel
theorem dX1_cutRectangle_1 : decode cX1_cutRectangle 1 = .ok (.istore 4, 2) := by decide +kernel
theorem dX1_cutRectangle_3 : decode cX1_cutRectangle 3 = .ok (.iconst 0, 1) := by decide +kernel
theorem dX1_cutRectangle_4 : decode cX1_cutRectangle 4 = .ok (.istore 5, 2) := by decide +kernel
theorem dX1_cutRectangle_6 : decode cX1_cutRectangle 6 = .ok (.iload 5, 2) := by decide +kernel
theorem dX1_cutRectangle_8 : decode cX1_cutRectangle 8 = .ok (.iload_n 2, 1) := by decide +kernel
theorem dX1_cutRectangle_9 : decode cX1_cutRectangle 9 = .ok (.if_icmp .ge 46, 3) := by decide +kernel
theorem dX1_cutRectangle_12 : decode cX1_cutRectangle 12 = .ok (.iload 4, 2) := by decide +kernel
theorem dX1_cutRectangle_14 : decode cX1_cutRectangle 14 = .ok (.aload_n 0, 1) := by decide +kernel
theorem dX1_cutRectangle_15 : decode cX1_cutRectangle 15 = .ok (.iload_n 1, 1) := by decide +kernel
theorem dX1_cutRectangle_16 : decode cX1_cutRectangle 16 = .ok (.iload 5, 2) := by decide +kernel
theorem dX1_cutRectangle_18 : decode cX1_cutRectangle 18 = .ok (.iadd, 1) := by decide +kernel
theorem dX1_cutRectangle_19 : decode cX1_cutRectangle 19 = .ok (.iconst 2, 1) := by decide +kernel
theorem dX1_cutRectangle_20 : decode cX1_cutRectangle 20 = .ok (.invokevirtual 97, 3) := by decide +kernel
theorem dX1_cutRectangle_23 : decode cX1_cutRectangle 23 = .ok (.iadd, 1) := by decide +kernel
theorem dX1_cutRectangle_24 : decode cX1_cutRectangle 24 = .ok (.istore 4, 2) := by decide +kernel
theorem dX1_cutRectangle_26 : decode cX1_cutRectangle 26 = .ok (.iload 4, 2) := by decide +kernel
theorem dX1_cutRectangle_28 : decode cX1_cutRectangle 28 = .ok (.aload_n 0, 1) := by decide +kernel
theorem dX1_cutRectangle_29 : decode cX1_cutRectangle 29 = .ok (.iload_n 1, 1) := by decide +kernel
theorem dX1_cutRectangle_30 : decode cX1_cutRectangle 30 = .ok (.iload_n 3, 1) := by decide +kernel
theorem dX1_cutRectangle_31 : decode cX1_cutRectangle 31 = .ok (.iconst 1, 1) := by decide +kernel
theorem dX1_cutRectangle_32 : decode cX1_cutRectangle 32 = .ok (.isub, 1) := by decide +kernel
theorem dX1_cutRectangle_33 : decode cX1_cutRectangle 33 = .ok (.aload_n 0, 1) := by decide +kernel
theorem dX1_cutRectangle_34 : decode cX1_cutRectangle 34 = .ok (.getfield 11, 3) := by decide +kernel
theorem dX1_cutRectangle_37 : decode cX1_cutRectangle 37 = .ok (.imul, 1) := by decide +kernel
theorem dX1_cutRectangle_38 : decode cX1_cutRectangle 38 = .ok (.iadd, 1) := by decide +kernel
theorem dX1_cutRectangle_39 : decode cX1_cutRectangle 39 = .ok (.iload 5, 2) := by decide +kernel
theorem dX1_cutRectangle_41 : decode cX1_cutRectangle 41 = .ok (.iadd, 1) := by decide +kernel
theorem dX1_cutRectangle_42 : decode cX1_cutRectangle 42 = .ok (.iconst 1, 1) := by decide +kernel
theorem dX1_cutRectangle_43 : decode cX1_cutRectangle 43 = .ok (.invokevirtual 97, 3) := by decide +kernel
theorem dX1_cutRectangle_46 : decode cX1_cutRectangle 46 = .ok (.iadd, 1) := by decide +kernel
theorem dX1_cutRectangle_47 : decode cX1_cutRectangle 47 = .ok (.istore 4, 2) := by decide +kernel
theorem dX1_cutRectangle_49 : decode cX1_cutRectangle 49 = .ok (.iinc 5 1, 3) := by decide +kernel
theorem dX1_cutRectangle_52 : decode cX1_cutRectangle 52 = .ok (.goto (-46), 3) := by decide +kernel
theorem dX1_cutRectangle_55 : decode cX1_cutRectangle 55 = .ok (.iconst 0, 1) := by decide +kernel
theorem dX1_cutRectangle_56 : decode cX1_cutRectangle 56 = .ok (.istore 5, 2) := by decide +kernel
theorem dX1_cutRectangle_58 : decode cX1_cutRectangle 58 = .ok (.iload 5, 2) := by decide +kernel
theorem dX1_cutRectangle_60 : decode cX1_cutRectangle 60 = .ok (.iload_n 3, 1) := by decide +kernel
theorem dX1_cutRectangle_61 : decode cX1_cutRectangle 61 = .ok (.if_icmp .ge 51, 3) := by decide +kernel
theorem dX1_cutRectangle_64 : decode cX1_cutRectangle 64 = .ok (.iload 4, 2) := by decide +kernel
theorem dX1_cutRectangle_66 : decode cX1_cutRectangle 66 = .ok (.aload_n 0, 1) := by decide +kernel
theorem dX1_cutRectangle_67 : decode cX1_cutRectangle 67 = .ok (.iload_n 1, 1) := by decide +kernel
theorem dX1_cutRectangle_68 : decode cX1_cutRectangle 68 = .ok (.iload 5, 2) := by decide +kernel
theorem dX1_cutRectangle_70 : decode cX1_cutRectangle 70 = .ok (.aload_n 0, 1) := by decide +kernel
theorem dX1_cutRectangle_71 : decode cX1_cutRectangle 71 = .ok (.getfield 11, 3) := by decide +kernel
theorem dX1_cutRectangle_74 : decode cX1_cutRectangle 74 = .ok (.imul, 1) := by decide +kernel
theorem dX1_cutRectangle_75 : decode cX1_cutRectangle 75 = .ok (.iadd, 1) := by decide +kernel
theorem dX1_cutRectangle_76 : decode cX1_cutRectangle 76 = .ok (.iconst 3, 1) := by decide +kernel
theorem dX1_cutRectangle_77 : decode cX1_cutRectangle 77 = .ok (.invokevirtual 97, 3) := by decide +kernel
theorem dX1_cutRectangle_80 : decode cX1_cutRectangle 80 = .ok (.iadd, 1) := by decide +kernel
theorem dX1_cutRectangle_81 : decode cX1_cutRectangle 81 = .ok (.istore 4, 2) := by decide +kernel
theorem dX1_cutRectangle_83 : decode cX1_cutRectangle 83 = .ok (.iload 4, 2) := by decide +kernel
theorem dX1_cutRectangle_85 : decode cX1_cutRectangle 85 = .ok (.aload_n 0, 1) := by decide +kernel
theorem dX1_cutRectangle_86 : decode cX1_cutRectangle 86 = .ok (.iload_n 1, 1) := by decide +kernel
theorem dX1_cutRectangle_87 : decode cX1_cutRectangle 87 = .ok (.iload 5, 2) := by decide +kernel
theorem dX1_cutRectangle_89 : decode cX1_cutRectangle 89 = .ok (.aload_n 0, 1) := by decide +kernel
theorem dX1_cutRectangle_90 : decode cX1_cutRectangle 90 = .ok (.getfield 11, 3) := by decide +kernel
theorem dX1_cutRectangle_93 : decode cX1_cutRectangle 93 = .ok (.imul, 1) := by decide +kernel
theorem dX1_cutRectangle_94 : decode cX1_cutRectangle 94 = .ok (.iadd, 1) := by decide +kernel
theorem dX1_cutRectangle_95 : decode cX1_cutRectangle 95 = .ok (.iload_n 2, 1) := by decide +kernel
theorem dX1_cutRectangle_96 : decode cX1_cutRectangle 96 = .ok (.iadd, 1) := by decide +kernel
theorem dX1_cutRectangle_97 : decode cX1_cutRectangle 97 = .ok (.iconst 1, 1) := by decide +kernel
theorem dX1_cutRectangle_98 : decode cX1_cutRectangle 98 = .ok (.isub, 1) := by decide +kernel
theorem dX1_cutRectangle_99 : decode cX1_cutRectangle 99 = .ok (.iconst 0, 1) := by decide +kernel
theorem dX1_cutRectangle_100 : decode cX1_cutRectangle 100 = .ok (.invokevirtual 97, 3) := by decide +kernel
theorem dX1_cutRectangle_103 : decode cX1_cutRectangle 103 = .ok (.iadd, 1) := by decide +kernel
theorem dX1_cutRectangle_104 : decode cX1_cutRectangle 104 = .ok (.istore 4, 2) := by decide +kernel
theorem dX1_cutRectangle_106 : decode cX1_cutRectangle 106 = .ok (.iinc 5 1, 3) := by decide +kernel
theorem dX1_cutRectangle_109 : decode cX1_cutRectangle 109 = .ok (.goto (-51), 3) := by decide +kernel
theorem dX1_cutRectangle_112 : decode cX1_cutRectangle 112 = .ok (.iload 4, 2) := by decide +kernel
theorem dX1_cutRectangle_114 : decode cX1_cutRectangle 114 = .ok (.ireturn, 1) := by decide +kernel
theorem dX1_isTiedToShore_0 : decode cX1_isTiedToShore 0 = .ok (.iload_n 1, 1) := by decide +kernel
theorem dX1_isTiedToShore_1 : decode cX1_isTiedToShore 1 = .ok (.aload_n 0, 1) := by decide +kernel
theorem dX1_isTiedToShore_2 : decode cX1_isTiedToShore 2 = .ok (.getfield 11, 3) := by decide +kernel
theorem dX1_isTiedToShore_5 : decode cX1_isTiedToShore 5 = .ok (.if_icmp .ge 16, 3) := by decide +kernel
theorem dX1_isTiedToShore_8 : decode cX1_isTiedToShore 8 = .ok (.aload_n 0, 1) := by decide +kernel
theorem dX1_isTiedToShore_9 : decode cX1_isTiedToShore 9 = .ok (.iload_n 1, 1) := by decide +kernel
theorem dX1_isTiedToShore_10 : decode cX1_isTiedToShore 10 = .ok (.iconst 2, 1) := by decide +kernel
theorem dX1_isTiedToShore_11 : decode cX1_isTiedToShore 11 = .ok (.invokevirtual 94, 3) := by decide +kernel
theorem dX1_isTiedToShore_14 : decode cX1_isTiedToShore 14 = .ok (.ifCond .ne 7, 3) := by decide +kernel
theorem dX1_isTiedToShore_17 : decode cX1_isTiedToShore 17 = .ok (.iconst 1, 1) := by decide +kernel
theorem dX1_isTiedToShore_18 : decode cX1_isTiedToShore 18 = .ok (.goto 4, 3) := by decide +kernel
theorem dX1_isTiedToShore_21 : decode cX1_isTiedToShore 21 = .ok (.iconst 0, 1) := by decide +kernel
theorem dX1_isTiedToShore_22 : decode cX1_isTiedToShore 22 = .ok (.ireturn, 1) := by decide +kernel
theorem dX1_waterBeside_0 : decode cX1_waterBeside 0 = .ok (.iconst 0, 1) := by decide +kernel
theorem dX1_waterBeside_1 : decode cX1_waterBeside 1 = .ok (.istore_n 2, 1) := by decide +kernel
theorem dX1_waterBeside_2 : decode cX1_waterBeside 2 = .ok (.iconst 0, 1) := by decide +kernel
theorem dX1_waterBeside_3 : decode cX1_waterBeside 3 = .ok (.istore_n 3, 1) := by decide +kernel
theorem dX1_waterBeside_4 : decode cX1_waterBeside 4 = .ok (.iload_n 3, 1) := by decide +kernel
theorem dX1_waterBeside_5 : decode cX1_waterBeside 5 = .ok (.iconst 4, 1) := by decide +kernel
theorem dX1_waterBeside_6 : decode cX1_waterBeside 6 = .ok (.if_icmp .ge 43, 3) := by decide +kernel
theorem dX1_waterBeside_9 : decode cX1_waterBeside 9 = .ok (.aload_n 0, 1) := by decide +kernel
theorem dX1_waterBeside_10 : decode cX1_waterBeside 10 = .ok (.iload_n 1, 1) := by decide +kernel
theorem dX1_waterBeside_11 : decode cX1_waterBeside 11 = .ok (.iload_n 3, 1) := by decide +kernel
theorem dX1_waterBeside_12 : decode cX1_waterBeside 12 = .ok (.invokevirtual 83, 3) := by decide +kernel
theorem dX1_waterBeside_15 : decode cX1_waterBeside 15 = .ok (.istore 4, 2) := by decide +kernel
theorem dX1_waterBeside_17 : decode cX1_waterBeside 17 = .ok (.iload 4, 2) := by decide +kernel
theorem dX1_waterBeside_19 : decode cX1_waterBeside 19 = .ok (.iconst (-1), 1) := by decide +kernel
theorem dX1_waterBeside_20 : decode cX1_waterBeside 20 = .ok (.if_icmp .ne 11, 3) := by decide +kernel
theorem dX1_waterBeside_23 : decode cX1_waterBeside 23 = .ok (.iload_n 3, 1) := by decide +kernel
theorem dX1_waterBeside_24 : decode cX1_waterBeside 24 = .ok (.iconst 1, 1) := by decide +kernel
theorem dX1_waterBeside_25 : decode cX1_waterBeside 25 = .ok (.if_icmp .ne 18, 3) := by decide +kernel
theorem dX1_waterBeside_28 : decode cX1_waterBeside 28 = .ok (.goto 12, 3) := by decide +kernel
theorem dX1_waterBeside_31 : decode cX1_waterBeside 31 = .ok (.aload_n 0, 1) := by decide +kernel
theorem dX1_waterBeside_32 : decode cX1_waterBeside 32 = .ok (.iload 4, 2) := by decide +kernel
theorem dX1_waterBeside_34 : decode cX1_waterBeside 34 = .ok (.invokevirtual 76, 3) := by decide +kernel
theorem dX1_waterBeside_37 : decode cX1_waterBeside 37 = .ok (.ifCond .ne 6, 3) := by decide +kernel
theorem dX1_waterBeside_40 : decode cX1_waterBeside 40 = .ok (.iinc 2 1, 3) := by decide +kernel
theorem dX1_waterBeside_43 : decode cX1_waterBeside 43 = .ok (.iinc 3 1, 3) := by decide +kernel
theorem dX1_waterBeside_46 : decode cX1_waterBeside 46 = .ok (.goto (-42), 3) := by decide +kernel
theorem dX1_waterBeside_49 : decode cX1_waterBeside 49 = .ok (.iload_n 2, 1) := by decide +kernel
theorem dX1_waterBeside_50 : decode cX1_waterBeside 50 = .ok (.ireturn, 1) := by decide +kernel
theorem dX1_lossOf_0 : decode cX1_lossOf 0 = .ok (.aload_n 0, 1) := by decide +kernel
theorem dX1_lossOf_1 : decode cX1_lossOf 1 = .ok (.iload_n 1, 1) := by decide +kernel
theorem dX1_lossOf_2 : decode cX1_lossOf 2 = .ok (.invokevirtual 100, 3) := by decide +kernel
theorem dX1_lossOf_5 : decode cX1_lossOf 5 = .ok (.iconst 2, 1) := by decide +kernel
theorem dX1_lossOf_6 : decode cX1_lossOf 6 = .ok (.if_icmp .lt 12, 3) := by decide +kernel
theorem dX1_lossOf_9 : decode cX1_lossOf 9 = .ok (.aload_n 0, 1) := by decide +kernel
theorem dX1_lossOf_10 : decode cX1_lossOf 10 = .ok (.getfield 18, 3) := by decide +kernel
theorem dX1_lossOf_13 : decode cX1_lossOf 13 = .ok (.iconst 1, 1) := by decide +kernel
theorem dX1_lossOf_14 : decode cX1_lossOf 14 = .ok (.iadd, 1) := by decide +kernel
theorem dX1_lossOf_15 : decode cX1_lossOf 15 = .ok (.goto 7, 3) := by decide +kernel
theorem dX1_lossOf_18 : decode cX1_lossOf 18 = .ok (.aload_n 0, 1) := by decide +kernel
theorem dX1_lossOf_19 : decode cX1_lossOf 19 = .ok (.getfield 18, 3) := by decide +kernel
theorem dX1_lossOf_22 : decode cX1_lossOf 22 = .ok (.istore_n 2, 1) := by decide +kernel
theorem dX1_lossOf_23 : decode cX1_lossOf 23 = .ok (.aload_n 0, 1) := by decide +kernel
theorem dX1_lossOf_24 : decode cX1_lossOf 24 = .ok (.getfield 41, 3) := by decide +kernel
theorem dX1_lossOf_27 : decode cX1_lossOf 27 = .ok (.iload_n 1, 1) := by decide +kernel
theorem dX1_lossOf_28 : decode cX1_lossOf 28 = .ok (.invokevirtual 61, 3) := by decide +kernel
theorem dX1_lossOf_31 : decode cX1_lossOf 31 = .ok (.istore_n 3, 1) := by decide +kernel
theorem dX1_lossOf_32 : decode cX1_lossOf 32 = .ok (.iload_n 2, 1) := by decide +kernel
theorem dX1_lossOf_33 : decode cX1_lossOf 33 = .ok (.iload_n 3, 1) := by decide +kernel
theorem dX1_lossOf_34 : decode cX1_lossOf 34 = .ok (.if_icmp .ge 7, 3) := by decide +kernel
theorem dX1_lossOf_37 : decode cX1_lossOf 37 = .ok (.iload_n 2, 1) := by decide +kernel
theorem dX1_lossOf_38 : decode cX1_lossOf 38 = .ok (.goto 4, 3) := by decide +kernel
theorem dX1_lossOf_41 : decode cX1_lossOf 41 = .ok (.iload_n 3, 1) := by decide +kernel
theorem dX1_lossOf_42 : decode cX1_lossOf 42 = .ok (.ireturn, 1) := by decide +kernel
theorem dX1_meltOneDay_0 : decode cX1_meltOneDay 0 = .ok (.iconst 0, 1) := by decide +kernel
theorem dX1_meltOneDay_1 : decode cX1_meltOneDay 1 = .ok (.istore_n 1, 1) := by decide +kernel
theorem dX1_meltOneDay_2 : decode cX1_meltOneDay 2 = .ok (.iload_n 1, 1) := by decide +kernel
theorem dX1_meltOneDay_3 : decode cX1_meltOneDay 3 = .ok (.aload_n 0, 1) := by decide +kernel
theorem dX1_meltOneDay_4 : decode cX1_meltOneDay 4 = .ok (.invokevirtual 69, 3) := by decide +kernel
theorem dX1_meltOneDay_7 : decode cX1_meltOneDay 7 = .ok (.if_icmp .ge 22, 3) := by decide +kernel
theorem dX1_meltOneDay_10 : decode cX1_meltOneDay 10 = .ok (.aload_n 0, 1) := by decide +kernel
theorem dX1_meltOneDay_11 : decode cX1_meltOneDay 11 = .ok (.getfield 51, 3) := by decide +kernel
theorem dX1_meltOneDay_14 : decode cX1_meltOneDay 14 = .ok (.iload_n 1, 1) := by decide +kernel
theorem dX1_meltOneDay_15 : decode cX1_meltOneDay 15 = .ok (.aload_n 0, 1) := by decide +kernel
theorem dX1_meltOneDay_16 : decode cX1_meltOneDay 16 = .ok (.iload_n 1, 1) := by decide +kernel
theorem dX1_meltOneDay_17 : decode cX1_meltOneDay 17 = .ok (.invokevirtual 103, 3) := by decide +kernel
theorem dX1_meltOneDay_20 : decode cX1_meltOneDay 20 = .ok (.invokevirtual 65, 3) := by decide +kernel
theorem dX1_meltOneDay_23 : decode cX1_meltOneDay 23 = .ok (.iinc 1 1, 3) := by decide +kernel
theorem dX1_meltOneDay_26 : decode cX1_meltOneDay 26 = .ok (.goto (-24), 3) := by decide +kernel
theorem dX1_meltOneDay_29 : decode cX1_meltOneDay 29 = .ok (.iconst 0, 1) := by decide +kernel
theorem dX1_meltOneDay_30 : decode cX1_meltOneDay 30 = .ok (.istore_n 1, 1) := by decide +kernel
theorem dX1_meltOneDay_31 : decode cX1_meltOneDay 31 = .ok (.iload_n 1, 1) := by decide +kernel
theorem dX1_meltOneDay_32 : decode cX1_meltOneDay 32 = .ok (.aload_n 0, 1) := by decide +kernel
theorem dX1_meltOneDay_33 : decode cX1_meltOneDay 33 = .ok (.invokevirtual 69, 3) := by decide +kernel
theorem dX1_meltOneDay_36 : decode cX1_meltOneDay 36 = .ok (.if_icmp .ge 51, 3) := by decide +kernel
theorem dX1_meltOneDay_39 : decode cX1_meltOneDay 39 = .ok (.aload_n 0, 1) := by decide +kernel
theorem dX1_meltOneDay_40 : decode cX1_meltOneDay 40 = .ok (.getfield 41, 3) := by decide +kernel
theorem dX1_meltOneDay_43 : decode cX1_meltOneDay 43 = .ok (.iload_n 1, 1) := by decide +kernel
theorem dX1_meltOneDay_44 : decode cX1_meltOneDay 44 = .ok (.aload_n 0, 1) := by decide +kernel
theorem dX1_meltOneDay_45 : decode cX1_meltOneDay 45 = .ok (.getfield 41, 3) := by decide +kernel
theorem dX1_meltOneDay_48 : decode cX1_meltOneDay 48 = .ok (.iload_n 1, 1) := by decide +kernel
theorem dX1_meltOneDay_49 : decode cX1_meltOneDay 49 = .ok (.invokevirtual 61, 3) := by decide +kernel
theorem dX1_meltOneDay_52 : decode cX1_meltOneDay 52 = .ok (.aload_n 0, 1) := by decide +kernel
theorem dX1_meltOneDay_53 : decode cX1_meltOneDay 53 = .ok (.getfield 51, 3) := by decide +kernel
theorem dX1_meltOneDay_56 : decode cX1_meltOneDay 56 = .ok (.iload_n 1, 1) := by decide +kernel
theorem dX1_meltOneDay_57 : decode cX1_meltOneDay 57 = .ok (.invokevirtual 61, 3) := by decide +kernel
theorem dX1_meltOneDay_60 : decode cX1_meltOneDay 60 = .ok (.isub, 1) := by decide +kernel
theorem dX1_meltOneDay_61 : decode cX1_meltOneDay 61 = .ok (.invokevirtual 65, 3) := by decide +kernel
theorem dX1_meltOneDay_64 : decode cX1_meltOneDay 64 = .ok (.aload_n 0, 1) := by decide +kernel
theorem dX1_meltOneDay_65 : decode cX1_meltOneDay 65 = .ok (.dup, 1) := by decide +kernel
theorem dX1_meltOneDay_66 : decode cX1_meltOneDay 66 = .ok (.getfield 27, 3) := by decide +kernel
theorem dX1_meltOneDay_69 : decode cX1_meltOneDay 69 = .ok (.aload_n 0, 1) := by decide +kernel
theorem dX1_meltOneDay_70 : decode cX1_meltOneDay 70 = .ok (.getfield 51, 3) := by decide +kernel
theorem dX1_meltOneDay_73 : decode cX1_meltOneDay 73 = .ok (.iload_n 1, 1) := by decide +kernel
theorem dX1_meltOneDay_74 : decode cX1_meltOneDay 74 = .ok (.invokevirtual 61, 3) := by decide +kernel
theorem dX1_meltOneDay_77 : decode cX1_meltOneDay 77 = .ok (.iadd, 1) := by decide +kernel
theorem dX1_meltOneDay_78 : decode cX1_meltOneDay 78 = .ok (.putfield 27, 3) := by decide +kernel
theorem dX1_meltOneDay_81 : decode cX1_meltOneDay 81 = .ok (.iinc 1 1, 3) := by decide +kernel
theorem dX1_meltOneDay_84 : decode cX1_meltOneDay 84 = .ok (.goto (-53), 3) := by decide +kernel
theorem dX1_meltOneDay_87 : decode cX1_meltOneDay 87 = .ok (.aload_n 0, 1) := by decide +kernel
theorem dX1_meltOneDay_88 : decode cX1_meltOneDay 88 = .ok (.dup, 1) := by decide +kernel
theorem dX1_meltOneDay_89 : decode cX1_meltOneDay 89 = .ok (.getfield 21, 3) := by decide +kernel
theorem dX1_meltOneDay_92 : decode cX1_meltOneDay 92 = .ok (.iconst 1, 1) := by decide +kernel
theorem dX1_meltOneDay_93 : decode cX1_meltOneDay 93 = .ok (.iadd, 1) := by decide +kernel
theorem dX1_meltOneDay_94 : decode cX1_meltOneDay 94 = .ok (.putfield 21, 3) := by decide +kernel
theorem dX1_meltOneDay_97 : decode cX1_meltOneDay 97 = .ok (.return_, 1) := by decide +kernel
theorem dX1_volumeOf_0 : decode cX1_volumeOf 0 = .ok (.iconst 0, 1) := by decide +kernel
theorem dX1_volumeOf_1 : decode cX1_volumeOf 1 = .ok (.istore_n 3, 1) := by decide +kernel
theorem dX1_volumeOf_2 : decode cX1_volumeOf 2 = .ok (.iconst 0, 1) := by decide +kernel
theorem dX1_volumeOf_3 : decode cX1_volumeOf 3 = .ok (.istore 4, 2) := by decide +kernel
theorem dX1_volumeOf_5 : decode cX1_volumeOf 5 = .ok (.iload 4, 2) := by decide +kernel
theorem dX1_volumeOf_7 : decode cX1_volumeOf 7 = .ok (.aload_n 0, 1) := by decide +kernel
theorem dX1_volumeOf_8 : decode cX1_volumeOf 8 = .ok (.invokevirtual 69, 3) := by decide +kernel
theorem dX1_volumeOf_11 : decode cX1_volumeOf 11 = .ok (.if_icmp .ge 31, 3) := by decide +kernel
theorem dX1_volumeOf_14 : decode cX1_volumeOf 14 = .ok (.aload_n 1, 1) := by decide +kernel
theorem dX1_volumeOf_15 : decode cX1_volumeOf 15 = .ok (.iload 4, 2) := by decide +kernel
theorem dX1_volumeOf_17 : decode cX1_volumeOf 17 = .ok (.invokevirtual 106, 3) := by decide +kernel
theorem dX1_volumeOf_20 : decode cX1_volumeOf 20 = .ok (.iload_n 2, 1) := by decide +kernel
theorem dX1_volumeOf_21 : decode cX1_volumeOf 21 = .ok (.if_icmp .ne 15, 3) := by decide +kernel
theorem dX1_volumeOf_24 : decode cX1_volumeOf 24 = .ok (.iload_n 3, 1) := by decide +kernel
theorem dX1_volumeOf_25 : decode cX1_volumeOf 25 = .ok (.aload_n 0, 1) := by decide +kernel
theorem dX1_volumeOf_26 : decode cX1_volumeOf 26 = .ok (.getfield 41, 3) := by decide +kernel
theorem dX1_volumeOf_29 : decode cX1_volumeOf 29 = .ok (.iload 4, 2) := by decide +kernel
theorem dX1_volumeOf_31 : decode cX1_volumeOf 31 = .ok (.invokevirtual 61, 3) := by decide +kernel
theorem dX1_volumeOf_34 : decode cX1_volumeOf 34 = .ok (.iadd, 1) := by decide +kernel
theorem dX1_volumeOf_35 : decode cX1_volumeOf 35 = .ok (.istore_n 3, 1) := by decide +kernel
theorem dX1_volumeOf_36 : decode cX1_volumeOf 36 = .ok (.iinc 4 1, 3) := by decide +kernel
theorem dX1_volumeOf_39 : decode cX1_volumeOf 39 = .ok (.goto (-34), 3) := by decide +kernel
theorem dX1_volumeOf_42 : decode cX1_volumeOf 42 = .ok (.iload_n 3, 1) := by decide +kernel
theorem dX1_volumeOf_43 : decode cX1_volumeOf 43 = .ok (.ireturn, 1) := by decide +kernel
theorem dX1_removeBlock_0 : decode cX1_removeBlock 0 = .ok (.aload_n 0, 1) := by decide +kernel
theorem dX1_removeBlock_1 : decode cX1_removeBlock 1 = .ok (.aload_n 1, 1) := by decide +kernel
theorem dX1_removeBlock_2 : decode cX1_removeBlock 2 = .ok (.iload_n 2, 1) := by decide +kernel
theorem dX1_removeBlock_3 : decode cX1_removeBlock 3 = .ok (.invokevirtual 111, 3) := by decide +kernel
theorem dX1_removeBlock_6 : decode cX1_removeBlock 6 = .ok (.istore_n 3, 1) := by decide +kernel
theorem dX1_removeBlock_7 : decode cX1_removeBlock 7 = .ok (.iconst 0, 1) := by decide +kernel
theorem dX1_removeBlock_8 : decode cX1_removeBlock 8 = .ok (.istore 4, 2) := by decide +kernel
theorem dX1_removeBlock_10 : decode cX1_removeBlock 10 = .ok (.iload 4, 2) := by decide +kernel
theorem dX1_removeBlock_12 : decode cX1_removeBlock 12 = .ok (.aload_n 0, 1) := by decide +kernel
theorem dX1_removeBlock_13 : decode cX1_removeBlock 13 = .ok (.invokevirtual 69, 3) := by decide +kernel
theorem dX1_removeBlock_16 : decode cX1_removeBlock 16 = .ok (.if_icmp .ge 29, 3) := by decide +kernel
theorem dX1_removeBlock_19 : decode cX1_removeBlock 19 = .ok (.aload_n 1, 1) := by decide +kernel
theorem dX1_removeBlock_20 : decode cX1_removeBlock 20 = .ok (.iload 4, 2) := by decide +kernel
theorem dX1_removeBlock_22 : decode cX1_removeBlock 22 = .ok (.invokevirtual 106, 3) := by decide +kernel
theorem dX1_removeBlock_25 : decode cX1_removeBlock 25 = .ok (.iload_n 2, 1) := by decide +kernel
theorem dX1_removeBlock_26 : decode cX1_removeBlock 26 = .ok (.if_icmp .ne 13, 3) := by decide +kernel
theorem dX1_removeBlock_29 : decode cX1_removeBlock 29 = .ok (.aload_n 0, 1) := by decide +kernel
theorem dX1_removeBlock_30 : decode cX1_removeBlock 30 = .ok (.getfield 41, 3) := by decide +kernel
theorem dX1_removeBlock_33 : decode cX1_removeBlock 33 = .ok (.iload 4, 2) := by decide +kernel
theorem dX1_removeBlock_35 : decode cX1_removeBlock 35 = .ok (.iconst 0, 1) := by decide +kernel
theorem dX1_removeBlock_36 : decode cX1_removeBlock 36 = .ok (.invokevirtual 65, 3) := by decide +kernel
theorem dX1_removeBlock_39 : decode cX1_removeBlock 39 = .ok (.iinc 4 1, 3) := by decide +kernel
theorem dX1_removeBlock_42 : decode cX1_removeBlock 42 = .ok (.goto (-32), 3) := by decide +kernel
theorem dX1_removeBlock_45 : decode cX1_removeBlock 45 = .ok (.aload_n 0, 1) := by decide +kernel
theorem dX1_removeBlock_46 : decode cX1_removeBlock 46 = .ok (.getfield 33, 3) := by decide +kernel
theorem dX1_removeBlock_49 : decode cX1_removeBlock 49 = .ok (.bipush 40, 2) := by decide +kernel
theorem dX1_removeBlock_51 : decode cX1_removeBlock 51 = .ok (.if_icmp .ge 52, 3) := by decide +kernel
theorem dX1_removeBlock_54 : decode cX1_removeBlock 54 = .ok (.aload_n 0, 1) := by decide +kernel
theorem dX1_removeBlock_55 : decode cX1_removeBlock 55 = .ok (.getfield 48, 3) := by decide +kernel
theorem dX1_removeBlock_58 : decode cX1_removeBlock 58 = .ok (.iconst 3, 1) := by decide +kernel
theorem dX1_removeBlock_59 : decode cX1_removeBlock 59 = .ok (.aload_n 0, 1) := by decide +kernel
theorem dX1_removeBlock_60 : decode cX1_removeBlock 60 = .ok (.getfield 33, 3) := by decide +kernel
theorem dX1_removeBlock_63 : decode cX1_removeBlock 63 = .ok (.imul, 1) := by decide +kernel
theorem dX1_removeBlock_64 : decode cX1_removeBlock 64 = .ok (.iload_n 2, 1) := by decide +kernel
theorem dX1_removeBlock_65 : decode cX1_removeBlock 65 = .ok (.invokevirtual 65, 3) := by decide +kernel
theorem dX1_removeBlock_68 : decode cX1_removeBlock 68 = .ok (.aload_n 0, 1) := by decide +kernel
theorem dX1_removeBlock_69 : decode cX1_removeBlock 69 = .ok (.getfield 48, 3) := by decide +kernel
theorem dX1_removeBlock_72 : decode cX1_removeBlock 72 = .ok (.iconst 3, 1) := by decide +kernel
theorem dX1_removeBlock_73 : decode cX1_removeBlock 73 = .ok (.aload_n 0, 1) := by decide +kernel
theorem dX1_removeBlock_74 : decode cX1_removeBlock 74 = .ok (.getfield 33, 3) := by decide +kernel
theorem dX1_removeBlock_77 : decode cX1_removeBlock 77 = .ok (.imul, 1) := by decide +kernel
theorem dX1_removeBlock_78 : decode cX1_removeBlock 78 = .ok (.iconst 1, 1) := by decide +kernel
theorem dX1_removeBlock_79 : decode cX1_removeBlock 79 = .ok (.iadd, 1) := by decide +kernel
theorem dX1_removeBlock_80 : decode cX1_removeBlock 80 = .ok (.iload_n 3, 1) := by decide +kernel
theorem dX1_removeBlock_81 : decode cX1_removeBlock 81 = .ok (.invokevirtual 65, 3) := by decide +kernel
theorem dX1_removeBlock_84 : decode cX1_removeBlock 84 = .ok (.aload_n 0, 1) := by decide +kernel
theorem dX1_removeBlock_85 : decode cX1_removeBlock 85 = .ok (.getfield 48, 3) := by decide +kernel
theorem dX1_removeBlock_88 : decode cX1_removeBlock 88 = .ok (.iconst 3, 1) := by decide +kernel
theorem dX1_removeBlock_89 : decode cX1_removeBlock 89 = .ok (.aload_n 0, 1) := by decide +kernel
theorem dX1_removeBlock_90 : decode cX1_removeBlock 90 = .ok (.getfield 33, 3) := by decide +kernel
theorem dX1_removeBlock_93 : decode cX1_removeBlock 93 = .ok (.imul, 1) := by decide +kernel
theorem dX1_removeBlock_94 : decode cX1_removeBlock 94 = .ok (.iconst 2, 1) := by decide +kernel
theorem dX1_removeBlock_95 : decode cX1_removeBlock 95 = .ok (.iadd, 1) := by decide +kernel
theorem dX1_removeBlock_96 : decode cX1_removeBlock 96 = .ok (.aload_n 0, 1) := by decide +kernel
theorem dX1_removeBlock_97 : decode cX1_removeBlock 97 = .ok (.getfield 21, 3) := by decide +kernel
theorem dX1_removeBlock_100 : decode cX1_removeBlock 100 = .ok (.invokevirtual 65, 3) := by decide +kernel
theorem dX1_removeBlock_103 : decode cX1_removeBlock 103 = .ok (.aload_n 0, 1) := by decide +kernel
theorem dX1_removeBlock_104 : decode cX1_removeBlock 104 = .ok (.dup, 1) := by decide +kernel
theorem dX1_removeBlock_105 : decode cX1_removeBlock 105 = .ok (.getfield 33, 3) := by decide +kernel
theorem dX1_removeBlock_108 : decode cX1_removeBlock 108 = .ok (.iconst 1, 1) := by decide +kernel
theorem dX1_removeBlock_109 : decode cX1_removeBlock 109 = .ok (.iadd, 1) := by decide +kernel
theorem dX1_removeBlock_110 : decode cX1_removeBlock 110 = .ok (.putfield 33, 3) := by decide +kernel
theorem dX1_removeBlock_113 : decode cX1_removeBlock 113 = .ok (.aload_n 0, 1) := by decide +kernel
theorem dX1_removeBlock_114 : decode cX1_removeBlock 114 = .ok (.dup, 1) := by decide +kernel
theorem dX1_removeBlock_115 : decode cX1_removeBlock 115 = .ok (.getfield 30, 3) := by decide +kernel
theorem dX1_removeBlock_118 : decode cX1_removeBlock 118 = .ok (.iload_n 3, 1) := by decide +kernel
theorem dX1_removeBlock_119 : decode cX1_removeBlock 119 = .ok (.iadd, 1) := by decide +kernel
theorem dX1_removeBlock_120 : decode cX1_removeBlock 120 = .ok (.putfield 30, 3) := by decide +kernel
theorem dX1_removeBlock_123 : decode cX1_removeBlock 123 = .ok (.iload_n 3, 1) := by decide +kernel
theorem dX1_removeBlock_124 : decode cX1_removeBlock 124 = .ok (.ireturn, 1) := by decide +kernel
theorem dX2_init_0 : decode cX2_init 0 = .ok (.aload_n 0, 1) := by decide +kernel
theorem dX2_init_1 : decode cX2_init 1 = .ok (.invokespecial 1, 3) := by decide +kernel
theorem dX2_init_4 : decode cX2_init 4 = .ok (.aload_n 0, 1) := by decide +kernel
theorem dX2_init_5 : decode cX2_init 5 = .ok (.iload_n 1, 1) := by decide +kernel
theorem dX2_init_6 : decode cX2_init 6 = .ok (.ifCond .ge 7, 3) := by decide +kernel
theorem dX2_init_9 : decode cX2_init 9 = .ok (.iconst 0, 1) := by decide +kernel
theorem dX2_init_10 : decode cX2_init 10 = .ok (.goto 4, 3) := by decide +kernel
theorem dX2_init_13 : decode cX2_init 13 = .ok (.iload_n 1, 1) := by decide +kernel
theorem dX2_init_14 : decode cX2_init 14 = .ok (.newarray .int, 2) := by decide +kernel
theorem dX2_init_16 : decode cX2_init 16 = .ok (.putfield 7, 3) := by decide +kernel
theorem dX2_init_19 : decode cX2_init 19 = .ok (.return_, 1) := by decide +kernel
theorem dX2_at_0 : decode cX2_at 0 = .ok (.iload_n 1, 1) := by decide +kernel
theorem dX2_at_1 : decode cX2_at 1 = .ok (.ifCond .lt 21, 3) := by decide +kernel
theorem dX2_at_4 : decode cX2_at 4 = .ok (.iload_n 1, 1) := by decide +kernel
theorem dX2_at_5 : decode cX2_at 5 = .ok (.aload_n 0, 1) := by decide +kernel
theorem dX2_at_6 : decode cX2_at 6 = .ok (.getfield 7, 3) := by decide +kernel
theorem dX2_at_9 : decode cX2_at 9 = .ok (.arraylength, 1) := by decide +kernel
theorem dX2_at_10 : decode cX2_at 10 = .ok (.if_icmp .ge 12, 3) := by decide +kernel
theorem dX2_at_13 : decode cX2_at 13 = .ok (.aload_n 0, 1) := by decide +kernel
theorem dX2_at_14 : decode cX2_at 14 = .ok (.getfield 7, 3) := by decide +kernel
theorem dX2_at_17 : decode cX2_at 17 = .ok (.iload_n 1, 1) := by decide +kernel
theorem dX2_at_18 : decode cX2_at 18 = .ok (.iaload, 1) := by decide +kernel
theorem dX2_at_19 : decode cX2_at 19 = .ok (.goto 4, 3) := by decide +kernel
theorem dX2_at_22 : decode cX2_at 22 = .ok (.iconst 0, 1) := by decide +kernel
theorem dX2_at_23 : decode cX2_at 23 = .ok (.ireturn, 1) := by decide +kernel
theorem dX2_put_0 : decode cX2_put 0 = .ok (.iload_n 1, 1) := by decide +kernel
theorem dX2_put_1 : decode cX2_put 1 = .ok (.ifCond .lt 19, 3) := by decide +kernel
theorem dX2_put_4 : decode cX2_put 4 = .ok (.iload_n 1, 1) := by decide +kernel
theorem dX2_put_5 : decode cX2_put 5 = .ok (.aload_n 0, 1) := by decide +kernel
theorem dX2_put_6 : decode cX2_put 6 = .ok (.getfield 7, 3) := by decide +kernel
theorem dX2_put_9 : decode cX2_put 9 = .ok (.arraylength, 1) := by decide +kernel
theorem dX2_put_10 : decode cX2_put 10 = .ok (.if_icmp .ge 10, 3) := by decide +kernel
theorem dX2_put_13 : decode cX2_put 13 = .ok (.aload_n 0, 1) := by decide +kernel
theorem dX2_put_14 : decode cX2_put 14 = .ok (.getfield 7, 3) := by decide +kernel
theorem dX2_put_17 : decode cX2_put 17 = .ok (.iload_n 1, 1) := by decide +kernel
theorem dX2_put_18 : decode cX2_put 18 = .ok (.iload_n 2, 1) := by decide +kernel
theorem dX2_put_19 : decode cX2_put 19 = .ok (.iastore, 1) := by decide +kernel
theorem dX2_put_20 : decode cX2_put 20 = .ok (.return_, 1) := by decide +kernel
theorem dX2_fill_0 : decode cX2_fill 0 = .ok (.iconst 0, 1) := by decide +kernel
theorem dX2_fill_1 : decode cX2_fill 1 = .ok (.istore_n 2, 1) := by decide +kernel
theorem dX2_fill_2 : decode cX2_fill 2 = .ok (.iload_n 2, 1) := by decide +kernel
theorem dX2_fill_3 : decode cX2_fill 3 = .ok (.aload_n 0, 1) := by decide +kernel
theorem dX2_fill_4 : decode cX2_fill 4 = .ok (.getfield 7, 3) := by decide +kernel
theorem dX2_fill_7 : decode cX2_fill 7 = .ok (.arraylength, 1) := by decide +kernel
theorem dX2_fill_8 : decode cX2_fill 8 = .ok (.if_icmp .ge 16, 3) := by decide +kernel
theorem dX2_fill_11 : decode cX2_fill 11 = .ok (.aload_n 0, 1) := by decide +kernel
theorem dX2_fill_12 : decode cX2_fill 12 = .ok (.getfield 7, 3) := by decide +kernel
theorem dX2_fill_15 : decode cX2_fill 15 = .ok (.iload_n 2, 1) := by decide +kernel
theorem dX2_fill_16 : decode cX2_fill 16 = .ok (.iload_n 1, 1) := by decide +kernel
theorem dX2_fill_17 : decode cX2_fill 17 = .ok (.iastore, 1) := by decide +kernel
theorem dX2_fill_18 : decode cX2_fill 18 = .ok (.iinc 2 1, 3) := by decide +kernel
theorem dX2_fill_21 : decode cX2_fill 21 = .ok (.goto (-19), 3) := by decide +kernel
theorem dX2_fill_24 : decode cX2_fill 24 = .ok (.return_, 1) := by decide +kernel
theorem dX2_copyFrom_0 : decode cX2_copyFrom 0 = .ok (.iconst 0, 1) := by decide +kernel
theorem dX2_copyFrom_1 : decode cX2_copyFrom 1 = .ok (.istore_n 2, 1) := by decide +kernel
theorem dX2_copyFrom_2 : decode cX2_copyFrom 2 = .ok (.iload_n 2, 1) := by decide +kernel
theorem dX2_copyFrom_3 : decode cX2_copyFrom 3 = .ok (.aload_n 0, 1) := by decide +kernel
theorem dX2_copyFrom_4 : decode cX2_copyFrom 4 = .ok (.getfield 7, 3) := by decide +kernel
theorem dX2_copyFrom_7 : decode cX2_copyFrom 7 = .ok (.arraylength, 1) := by decide +kernel
theorem dX2_copyFrom_8 : decode cX2_copyFrom 8 = .ok (.if_icmp .ge 20, 3) := by decide +kernel
theorem dX2_copyFrom_11 : decode cX2_copyFrom 11 = .ok (.aload_n 0, 1) := by decide +kernel
theorem dX2_copyFrom_12 : decode cX2_copyFrom 12 = .ok (.getfield 7, 3) := by decide +kernel
theorem dX2_copyFrom_15 : decode cX2_copyFrom 15 = .ok (.iload_n 2, 1) := by decide +kernel
theorem dX2_copyFrom_16 : decode cX2_copyFrom 16 = .ok (.aload_n 1, 1) := by decide +kernel
theorem dX2_copyFrom_17 : decode cX2_copyFrom 17 = .ok (.iload_n 2, 1) := by decide +kernel
theorem dX2_copyFrom_18 : decode cX2_copyFrom 18 = .ok (.invokevirtual 13, 3) := by decide +kernel
theorem dX2_copyFrom_21 : decode cX2_copyFrom 21 = .ok (.iastore, 1) := by decide +kernel
theorem dX2_copyFrom_22 : decode cX2_copyFrom 22 = .ok (.iinc 2 1, 3) := by decide +kernel
theorem dX2_copyFrom_25 : decode cX2_copyFrom 25 = .ok (.goto (-23), 3) := by decide +kernel
theorem dX2_copyFrom_28 : decode cX2_copyFrom 28 = .ok (.return_, 1) := by decide +kernel
theorem dX2_sum_0 : decode cX2_sum 0 = .ok (.iconst 0, 1) := by decide +kernel
theorem dX2_sum_1 : decode cX2_sum 1 = .ok (.istore_n 1, 1) := by decide +kernel
theorem dX2_sum_2 : decode cX2_sum 2 = .ok (.iconst 0, 1) := by decide +kernel
theorem dX2_sum_3 : decode cX2_sum 3 = .ok (.istore_n 2, 1) := by decide +kernel
theorem dX2_sum_4 : decode cX2_sum 4 = .ok (.iload_n 2, 1) := by decide +kernel
theorem dX2_sum_5 : decode cX2_sum 5 = .ok (.aload_n 0, 1) := by decide +kernel
theorem dX2_sum_6 : decode cX2_sum 6 = .ok (.getfield 7, 3) := by decide +kernel
theorem dX2_sum_9 : decode cX2_sum 9 = .ok (.arraylength, 1) := by decide +kernel
theorem dX2_sum_10 : decode cX2_sum 10 = .ok (.if_icmp .ge 18, 3) := by decide +kernel
theorem dX2_sum_13 : decode cX2_sum 13 = .ok (.iload_n 1, 1) := by decide +kernel
theorem dX2_sum_14 : decode cX2_sum 14 = .ok (.aload_n 0, 1) := by decide +kernel
theorem dX2_sum_15 : decode cX2_sum 15 = .ok (.getfield 7, 3) := by decide +kernel
theorem dX2_sum_18 : decode cX2_sum 18 = .ok (.iload_n 2, 1) := by decide +kernel
theorem dX2_sum_19 : decode cX2_sum 19 = .ok (.iaload, 1) := by decide +kernel
theorem dX2_sum_20 : decode cX2_sum 20 = .ok (.iadd, 1) := by decide +kernel
theorem dX2_sum_21 : decode cX2_sum 21 = .ok (.istore_n 1, 1) := by decide +kernel
theorem dX2_sum_22 : decode cX2_sum 22 = .ok (.iinc 2 1, 3) := by decide +kernel
theorem dX2_sum_25 : decode cX2_sum 25 = .ok (.goto (-21), 3) := by decide +kernel
theorem dX2_sum_28 : decode cX2_sum 28 = .ok (.iload_n 1, 1) := by decide +kernel
theorem dX2_sum_29 : decode cX2_sum 29 = .ok (.ireturn, 1) := by decide +kernel
theorem dX3_init_0 : decode cX3_init 0 = .ok (.aload_n 0, 1) := by decide +kernel
theorem dX3_init_1 : decode cX3_init 1 = .ok (.invokespecial 3, 3) := by decide +kernel
theorem dX3_init_4 : decode cX3_init 4 = .ok (.aload_n 0, 1) := by decide +kernel
theorem dX3_init_5 : decode cX3_init 5 = .ok (.new 9, 3) := by decide +kernel
theorem dX3_init_8 : decode cX3_init 8 = .ok (.dup, 1) := by decide +kernel
theorem dX3_init_9 : decode cX3_init 9 = .ok (.bipush 60, 2) := by decide +kernel
theorem dX3_init_11 : decode cX3_init 11 = .ok (.invokespecial 11, 3) := by decide +kernel
theorem dX3_init_14 : decode cX3_init 14 = .ok (.putfield 14, 3) := by decide +kernel
theorem dX3_init_17 : decode cX3_init 17 = .ok (.aload_n 0, 1) := by decide +kernel
theorem dX3_init_18 : decode cX3_init 18 = .ok (.iconst 0, 1) := by decide +kernel
theorem dX3_init_19 : decode cX3_init 19 = .ok (.putfield 20, 3) := by decide +kernel
theorem dX3_init_22 : decode cX3_init 22 = .ok (.aload_n 0, 1) := by decide +kernel
theorem dX3_init_23 : decode cX3_init 23 = .ok (.iconst 0, 1) := by decide +kernel
theorem dX3_init_24 : decode cX3_init 24 = .ok (.putfield 24, 3) := by decide +kernel
theorem dX3_init_27 : decode cX3_init 27 = .ok (.aload_n 0, 1) := by decide +kernel
theorem dX3_init_28 : decode cX3_init 28 = .ok (.iconst 0, 1) := by decide +kernel
theorem dX3_init_29 : decode cX3_init 29 = .ok (.putfield 27, 3) := by decide +kernel
theorem dX3_init_32 : decode cX3_init 32 = .ok (.return_, 1) := by decide +kernel
theorem dX4_init_0 : decode cX4_init 0 = .ok (.aload_n 0, 1) := by decide +kernel
theorem dX4_init_1 : decode cX4_init 1 = .ok (.invokespecial 5, 3) := by decide +kernel
theorem dX4_init_4 : decode cX4_init 4 = .ok (.aload_n 0, 1) := by decide +kernel
theorem dX4_init_5 : decode cX4_init 5 = .ok (.new 11, 3) := by decide +kernel
theorem dX4_init_8 : decode cX4_init 8 = .ok (.dup, 1) := by decide +kernel
theorem dX4_init_9 : decode cX4_init 9 = .ok (.sipush 240, 3) := by decide +kernel
theorem dX4_init_12 : decode cX4_init 12 = .ok (.invokespecial 13, 3) := by decide +kernel
theorem dX4_init_15 : decode cX4_init 15 = .ok (.putfield 16, 3) := by decide +kernel
theorem dX4_init_18 : decode cX4_init 18 = .ok (.aload_n 0, 1) := by decide +kernel
theorem dX4_init_19 : decode cX4_init 19 = .ok (.new 11, 3) := by decide +kernel
theorem dX4_init_22 : decode cX4_init 22 = .ok (.dup, 1) := by decide +kernel
theorem dX4_init_23 : decode cX4_init 23 = .ok (.bipush 49, 2) := by decide +kernel
theorem dX4_init_25 : decode cX4_init 25 = .ok (.invokespecial 13, 3) := by decide +kernel
theorem dX4_init_28 : decode cX4_init 28 = .ok (.putfield 20, 3) := by decide +kernel
theorem dX4_init_31 : decode cX4_init 31 = .ok (.aload_n 0, 1) := by decide +kernel
theorem dX4_init_32 : decode cX4_init 32 = .ok (.iconst 0, 1) := by decide +kernel
theorem dX4_init_33 : decode cX4_init 33 = .ok (.putfield 23, 3) := by decide +kernel
theorem dX4_init_36 : decode cX4_init 36 = .ok (.aload_n 0, 1) := by decide +kernel
theorem dX4_init_37 : decode cX4_init 37 = .ok (.new 11, 3) := by decide +kernel
theorem dX4_init_40 : decode cX4_init 40 = .ok (.dup, 1) := by decide +kernel
theorem dX4_init_41 : decode cX4_init 41 = .ok (.sipush 240, 3) := by decide +kernel
theorem dX4_init_44 : decode cX4_init 44 = .ok (.invokespecial 13, 3) := by decide +kernel
theorem dX4_init_47 : decode cX4_init 47 = .ok (.putfield 27, 3) := by decide +kernel
theorem dX4_init_50 : decode cX4_init 50 = .ok (.aload_n 0, 1) := by decide +kernel
theorem dX4_init_51 : decode cX4_init 51 = .ok (.new 11, 3) := by decide +kernel
theorem dX4_init_54 : decode cX4_init 54 = .ok (.dup, 1) := by decide +kernel
theorem dX4_init_55 : decode cX4_init 55 = .ok (.sipush 240, 3) := by decide +kernel
theorem dX4_init_58 : decode cX4_init 58 = .ok (.invokespecial 13, 3) := by decide +kernel
theorem dX4_init_61 : decode cX4_init 61 = .ok (.putfield 30, 3) := by decide +kernel
theorem dX4_init_64 : decode cX4_init 64 = .ok (.return_, 1) := by decide +kernel
theorem dX4_search_0 : decode cX4_search 0 = .ok (.aload_n 0, 1) := by decide +kernel
theorem dX4_search_1 : decode cX4_search 1 = .ok (.aload_n 2, 1) := by decide +kernel
theorem dX4_search_2 : decode cX4_search 2 = .ok (.iload_n 3, 1) := by decide +kernel
theorem dX4_search_3 : decode cX4_search 3 = .ok (.invokevirtual 33, 3) := by decide +kernel
theorem dX4_search_6 : decode cX4_search 6 = .ok (.aload_n 0, 1) := by decide +kernel
theorem dX4_search_7 : decode cX4_search 7 = .ok (.getfield 27, 3) := by decide +kernel
theorem dX4_search_10 : decode cX4_search 10 = .ok (.iconst (-1), 1) := by decide +kernel
theorem dX4_search_11 : decode cX4_search 11 = .ok (.invokevirtual 37, 3) := by decide +kernel
theorem dX4_search_14 : decode cX4_search 14 = .ok (.aload_n 0, 1) := by decide +kernel
theorem dX4_search_15 : decode cX4_search 15 = .ok (.getfield 27, 3) := by decide +kernel
theorem dX4_search_18 : decode cX4_search 18 = .ok (.bipush 112, 2) := by decide +kernel
theorem dX4_search_20 : decode cX4_search 20 = .ok (.iconst 4, 1) := by decide +kernel
theorem dX4_search_21 : decode cX4_search 21 = .ok (.invokevirtual 40, 3) := by decide +kernel
theorem dX4_search_24 : decode cX4_search 24 = .ok (.aload_n 0, 1) := by decide +kernel
theorem dX4_search_25 : decode cX4_search 25 = .ok (.getfield 30, 3) := by decide +kernel
theorem dX4_search_28 : decode cX4_search 28 = .ok (.iconst 0, 1) := by decide +kernel
theorem dX4_search_29 : decode cX4_search 29 = .ok (.bipush 112, 2) := by decide +kernel
theorem dX4_search_31 : decode cX4_search 31 = .ok (.invokevirtual 40, 3) := by decide +kernel
theorem dX4_search_34 : decode cX4_search 34 = .ok (.iconst 1, 1) := by decide +kernel
theorem dX4_search_35 : decode cX4_search 35 = .ok (.istore 4, 2) := by decide +kernel
theorem dX4_search_37 : decode cX4_search 37 = .ok (.iconst 0, 1) := by decide +kernel
theorem dX4_search_38 : decode cX4_search 38 = .ok (.istore 5, 2) := by decide +kernel
theorem dX4_search_40 : decode cX4_search 40 = .ok (.iload 5, 2) := by decide +kernel
theorem dX4_search_42 : decode cX4_search 42 = .ok (.iload 4, 2) := by decide +kernel
theorem dX4_search_44 : decode cX4_search 44 = .ok (.if_icmp .ge 124, 3) := by decide +kernel
theorem dX4_search_47 : decode cX4_search 47 = .ok (.iload 5, 2) := by decide +kernel
theorem dX4_search_49 : decode cX4_search 49 = .ok (.sipush 240, 3) := by decide +kernel
theorem dX4_search_52 : decode cX4_search 52 = .ok (.if_icmp .ge 116, 3) := by decide +kernel
theorem dX4_search_55 : decode cX4_search 55 = .ok (.iconst 0, 1) := by decide +kernel
theorem dX4_search_56 : decode cX4_search 56 = .ok (.istore 6, 2) := by decide +kernel
theorem dX4_search_58 : decode cX4_search 58 = .ok (.iload 6, 2) := by decide +kernel
theorem dX4_search_60 : decode cX4_search 60 = .ok (.iconst 4, 1) := by decide +kernel
theorem dX4_search_61 : decode cX4_search 61 = .ok (.if_icmp .ge 101, 3) := by decide +kernel
theorem dX4_search_64 : decode cX4_search 64 = .ok (.aload_n 0, 1) := by decide +kernel
theorem dX4_search_65 : decode cX4_search 65 = .ok (.getfield 30, 3) := by decide +kernel
theorem dX4_search_68 : decode cX4_search 68 = .ok (.iload 5, 2) := by decide +kernel
theorem dX4_search_70 : decode cX4_search 70 = .ok (.invokevirtual 44, 3) := by decide +kernel
theorem dX4_search_73 : decode cX4_search 73 = .ok (.iload 6, 2) := by decide +kernel
theorem dX4_search_75 : decode cX4_search 75 = .ok (.invokestatic 48, 3) := by decide +kernel
theorem dX4_search_78 : decode cX4_search 78 = .ok (.iadd, 1) := by decide +kernel
theorem dX4_search_79 : decode cX4_search 79 = .ok (.istore 7, 2) := by decide +kernel
theorem dX4_search_81 : decode cX4_search 81 = .ok (.aload_n 0, 1) := by decide +kernel
theorem dX4_search_82 : decode cX4_search 82 = .ok (.getfield 27, 3) := by decide +kernel
theorem dX4_search_85 : decode cX4_search 85 = .ok (.iload 7, 2) := by decide +kernel
theorem dX4_search_87 : decode cX4_search 87 = .ok (.invokevirtual 44, 3) := by decide +kernel
theorem dX4_search_90 : decode cX4_search 90 = .ok (.iconst (-1), 1) := by decide +kernel
theorem dX4_search_91 : decode cX4_search 91 = .ok (.if_icmp .ne 65, 3) := by decide +kernel
theorem dX4_search_94 : decode cX4_search 94 = .ok (.aload_n 0, 1) := by decide +kernel
theorem dX4_search_95 : decode cX4_search 95 = .ok (.aload_n 1, 1) := by decide +kernel
theorem dX4_search_96 : decode cX4_search 96 = .ok (.aload_n 2, 1) := by decide +kernel
theorem dX4_search_97 : decode cX4_search 97 = .ok (.iload_n 3, 1) := by decide +kernel
theorem dX4_search_98 : decode cX4_search 98 = .ok (.iload 7, 2) := by decide +kernel
theorem dX4_search_100 : decode cX4_search 100 = .ok (.invokevirtual 51, 3) := by decide +kernel
theorem dX4_search_103 : decode cX4_search 103 = .ok (.ifCond .eq 53, 3) := by decide +kernel
theorem dX4_search_106 : decode cX4_search 106 = .ok (.aload_n 0, 1) := by decide +kernel
theorem dX4_search_107 : decode cX4_search 107 = .ok (.getfield 27, 3) := by decide +kernel
theorem dX4_search_110 : decode cX4_search 110 = .ok (.iload 7, 2) := by decide +kernel
theorem dX4_search_112 : decode cX4_search 112 = .ok (.iload 6, 2) := by decide +kernel
theorem dX4_search_114 : decode cX4_search 114 = .ok (.invokevirtual 40, 3) := by decide +kernel
theorem dX4_search_117 : decode cX4_search 117 = .ok (.aload_n 1, 1) := by decide +kernel
theorem dX4_search_118 : decode cX4_search 118 = .ok (.iload_n 3, 1) := by decide +kernel
theorem dX4_search_119 : decode cX4_search 119 = .ok (.invokevirtual 55, 3) := by decide +kernel
theorem dX4_search_122 : decode cX4_search 122 = .ok (.iload 7, 2) := by decide +kernel
theorem dX4_search_124 : decode cX4_search 124 = .ok (.invokestatic 60, 3) := by decide +kernel
theorem dX4_search_127 : decode cX4_search 127 = .ok (.iadd, 1) := by decide +kernel
theorem dX4_search_128 : decode cX4_search 128 = .ok (.aload_n 1, 1) := by decide +kernel
theorem dX4_search_129 : decode cX4_search 129 = .ok (.getfield 63, 3) := by decide +kernel
theorem dX4_search_132 : decode cX4_search 132 = .ok (.if_icmp .lt 10, 3) := by decide +kernel
theorem dX4_search_135 : decode cX4_search 135 = .ok (.aload_n 0, 1) := by decide +kernel
theorem dX4_search_136 : decode cX4_search 136 = .ok (.iload 7, 2) := by decide +kernel
theorem dX4_search_138 : decode cX4_search 138 = .ok (.invokevirtual 66, 3) := by decide +kernel
theorem dX4_search_141 : decode cX4_search 141 = .ok (.ireturn, 1) := by decide +kernel
theorem dX4_search_142 : decode cX4_search 142 = .ok (.aload_n 0, 1) := by decide +kernel
theorem dX4_search_143 : decode cX4_search 143 = .ok (.getfield 30, 3) := by decide +kernel
theorem dX4_search_146 : decode cX4_search 146 = .ok (.iload 4, 2) := by decide +kernel
theorem dX4_search_148 : decode cX4_search 148 = .ok (.iload 7, 2) := by decide +kernel
theorem dX4_search_150 : decode cX4_search 150 = .ok (.invokevirtual 40, 3) := by decide +kernel
theorem dX4_search_153 : decode cX4_search 153 = .ok (.iinc 4 1, 3) := by decide +kernel
theorem dX4_search_156 : decode cX4_search 156 = .ok (.iinc 6 1, 3) := by decide +kernel
theorem dX4_search_159 : decode cX4_search 159 = .ok (.goto (-101), 3) := by decide +kernel
theorem dX4_search_162 : decode cX4_search 162 = .ok (.iinc 5 1, 3) := by decide +kernel
theorem dX4_search_165 : decode cX4_search 165 = .ok (.goto (-125), 3) := by decide +kernel
theorem dX4_search_168 : decode cX4_search 168 = .ok (.iconst (-1), 1) := by decide +kernel
theorem dX4_search_169 : decode cX4_search 169 = .ok (.ireturn, 1) := by decide +kernel
theorem dX4_gatherCells_0 : decode cX4_gatherCells 0 = .ok (.aload_n 0, 1) := by decide +kernel
theorem dX4_gatherCells_1 : decode cX4_gatherCells 1 = .ok (.iconst 0, 1) := by decide +kernel
theorem dX4_gatherCells_2 : decode cX4_gatherCells 2 = .ok (.putfield 23, 3) := by decide +kernel
theorem dX4_gatherCells_5 : decode cX4_gatherCells 5 = .ok (.iconst 0, 1) := by decide +kernel
theorem dX4_gatherCells_6 : decode cX4_gatherCells 6 = .ok (.istore_n 3, 1) := by decide +kernel
theorem dX4_gatherCells_7 : decode cX4_gatherCells 7 = .ok (.iload_n 3, 1) := by decide +kernel
theorem dX4_gatherCells_8 : decode cX4_gatherCells 8 = .ok (.bipush 49, 2) := by decide +kernel
theorem dX4_gatherCells_10 : decode cX4_gatherCells 10 = .ok (.if_icmp .ge 40, 3) := by decide +kernel
theorem dX4_gatherCells_13 : decode cX4_gatherCells 13 = .ok (.aload_n 1, 1) := by decide +kernel
theorem dX4_gatherCells_14 : decode cX4_gatherCells 14 = .ok (.iload_n 3, 1) := by decide +kernel
theorem dX4_gatherCells_15 : decode cX4_gatherCells 15 = .ok (.invokevirtual 69, 3) := by decide +kernel
theorem dX4_gatherCells_18 : decode cX4_gatherCells 18 = .ok (.iload_n 2, 1) := by decide +kernel
theorem dX4_gatherCells_19 : decode cX4_gatherCells 19 = .ok (.if_icmp .ne 25, 3) := by decide +kernel
theorem dX4_gatherCells_22 : decode cX4_gatherCells 22 = .ok (.aload_n 0, 1) := by decide +kernel
theorem dX4_gatherCells_23 : decode cX4_gatherCells 23 = .ok (.getfield 20, 3) := by decide +kernel
theorem dX4_gatherCells_26 : decode cX4_gatherCells 26 = .ok (.aload_n 0, 1) := by decide +kernel
theorem dX4_gatherCells_27 : decode cX4_gatherCells 27 = .ok (.getfield 23, 3) := by decide +kernel
theorem dX4_gatherCells_30 : decode cX4_gatherCells 30 = .ok (.iload_n 3, 1) := by decide +kernel
theorem dX4_gatherCells_31 : decode cX4_gatherCells 31 = .ok (.invokevirtual 40, 3) := by decide +kernel
theorem dX4_gatherCells_34 : decode cX4_gatherCells 34 = .ok (.aload_n 0, 1) := by decide +kernel
theorem dX4_gatherCells_35 : decode cX4_gatherCells 35 = .ok (.dup, 1) := by decide +kernel
theorem dX4_gatherCells_36 : decode cX4_gatherCells 36 = .ok (.getfield 23, 3) := by decide +kernel
theorem dX4_gatherCells_39 : decode cX4_gatherCells 39 = .ok (.iconst 1, 1) := by decide +kernel
theorem dX4_gatherCells_40 : decode cX4_gatherCells 40 = .ok (.iadd, 1) := by decide +kernel
theorem dX4_gatherCells_41 : decode cX4_gatherCells 41 = .ok (.putfield 23, 3) := by decide +kernel
theorem dX4_gatherCells_44 : decode cX4_gatherCells 44 = .ok (.iinc 3 1, 3) := by decide +kernel
theorem dX4_gatherCells_47 : decode cX4_gatherCells 47 = .ok (.goto (-40), 3) := by decide +kernel
theorem dX4_gatherCells_50 : decode cX4_gatherCells 50 = .ok (.return_, 1) := by decide +kernel
theorem dX4_canLie_0 : decode cX4_canLie 0 = .ok (.iload 4, 2) := by decide +kernel
theorem dX4_canLie_2 : decode cX4_canLie 2 = .ok (.invokestatic 60, 3) := by decide +kernel
theorem dX4_canLie_5 : decode cX4_canLie 5 = .ok (.istore 5, 2) := by decide +kernel
theorem dX4_canLie_7 : decode cX4_canLie 7 = .ok (.iload 4, 2) := by decide +kernel
theorem dX4_canLie_9 : decode cX4_canLie 9 = .ok (.invokestatic 74, 3) := by decide +kernel
theorem dX4_canLie_12 : decode cX4_canLie 12 = .ok (.istore 6, 2) := by decide +kernel
theorem dX4_canLie_14 : decode cX4_canLie 14 = .ok (.iconst 0, 1) := by decide +kernel
theorem dX4_canLie_15 : decode cX4_canLie 15 = .ok (.istore 7, 2) := by decide +kernel
theorem dX4_canLie_17 : decode cX4_canLie 17 = .ok (.iload 7, 2) := by decide +kernel
theorem dX4_canLie_19 : decode cX4_canLie 19 = .ok (.aload_n 0, 1) := by decide +kernel
theorem dX4_canLie_20 : decode cX4_canLie 20 = .ok (.getfield 23, 3) := by decide +kernel
theorem dX4_canLie_23 : decode cX4_canLie 23 = .ok (.if_icmp .ge 108, 3) := by decide +kernel
theorem dX4_canLie_26 : decode cX4_canLie 26 = .ok (.aload_n 1, 1) := by decide +kernel
theorem dX4_canLie_27 : decode cX4_canLie 27 = .ok (.aload_n 0, 1) := by decide +kernel
theorem dX4_canLie_28 : decode cX4_canLie 28 = .ok (.getfield 20, 3) := by decide +kernel
theorem dX4_canLie_31 : decode cX4_canLie 31 = .ok (.iload 7, 2) := by decide +kernel
theorem dX4_canLie_33 : decode cX4_canLie 33 = .ok (.invokevirtual 44, 3) := by decide +kernel
theorem dX4_canLie_36 : decode cX4_canLie 36 = .ok (.invokevirtual 55, 3) := by decide +kernel
theorem dX4_canLie_39 : decode cX4_canLie 39 = .ok (.iload 5, 2) := by decide +kernel
theorem dX4_canLie_41 : decode cX4_canLie 41 = .ok (.iadd, 1) := by decide +kernel
theorem dX4_canLie_42 : decode cX4_canLie 42 = .ok (.istore 8, 2) := by decide +kernel
theorem dX4_canLie_44 : decode cX4_canLie 44 = .ok (.aload_n 1, 1) := by decide +kernel
theorem dX4_canLie_45 : decode cX4_canLie 45 = .ok (.aload_n 0, 1) := by decide +kernel
theorem dX4_canLie_46 : decode cX4_canLie 46 = .ok (.getfield 20, 3) := by decide +kernel
theorem dX4_canLie_49 : decode cX4_canLie 49 = .ok (.iload 7, 2) := by decide +kernel
theorem dX4_canLie_51 : decode cX4_canLie 51 = .ok (.invokevirtual 44, 3) := by decide +kernel
theorem dX4_canLie_54 : decode cX4_canLie 54 = .ok (.invokevirtual 77, 3) := by decide +kernel
theorem dX4_canLie_57 : decode cX4_canLie 57 = .ok (.iload 6, 2) := by decide +kernel
theorem dX4_canLie_59 : decode cX4_canLie 59 = .ok (.iadd, 1) := by decide +kernel
theorem dX4_canLie_60 : decode cX4_canLie 60 = .ok (.istore 9, 2) := by decide +kernel
theorem dX4_canLie_62 : decode cX4_canLie 62 = .ok (.iload 8, 2) := by decide +kernel
theorem dX4_canLie_64 : decode cX4_canLie 64 = .ok (.ifCond .lt 17, 3) := by decide +kernel
theorem dX4_canLie_67 : decode cX4_canLie 67 = .ok (.iload 9, 2) := by decide +kernel
theorem dX4_canLie_69 : decode cX4_canLie 69 = .ok (.ifCond .lt 12, 3) := by decide +kernel
theorem dX4_canLie_72 : decode cX4_canLie 72 = .ok (.iload 9, 2) := by decide +kernel
theorem dX4_canLie_74 : decode cX4_canLie 74 = .ok (.aload_n 1, 1) := by decide +kernel
theorem dX4_canLie_75 : decode cX4_canLie 75 = .ok (.getfield 80, 3) := by decide +kernel
theorem dX4_canLie_78 : decode cX4_canLie 78 = .ok (.if_icmp .lt 5, 3) := by decide +kernel
theorem dX4_canLie_81 : decode cX4_canLie 81 = .ok (.iconst 0, 1) := by decide +kernel
theorem dX4_canLie_82 : decode cX4_canLie 82 = .ok (.ireturn, 1) := by decide +kernel
theorem dX4_canLie_83 : decode cX4_canLie 83 = .ok (.iload 8, 2) := by decide +kernel
theorem dX4_canLie_85 : decode cX4_canLie 85 = .ok (.aload_n 1, 1) := by decide +kernel
theorem dX4_canLie_86 : decode cX4_canLie 86 = .ok (.getfield 80, 3) := by decide +kernel
theorem dX4_canLie_89 : decode cX4_canLie 89 = .ok (.imul, 1) := by decide +kernel
theorem dX4_canLie_90 : decode cX4_canLie 90 = .ok (.iload 9, 2) := by decide +kernel
theorem dX4_canLie_92 : decode cX4_canLie 92 = .ok (.iadd, 1) := by decide +kernel
theorem dX4_canLie_93 : decode cX4_canLie 93 = .ok (.istore 10, 2) := by decide +kernel
theorem dX4_canLie_95 : decode cX4_canLie 95 = .ok (.iload 8, 2) := by decide +kernel
theorem dX4_canLie_97 : decode cX4_canLie 97 = .ok (.aload_n 1, 1) := by decide +kernel
theorem dX4_canLie_98 : decode cX4_canLie 98 = .ok (.getfield 63, 3) := by decide +kernel
theorem dX4_canLie_101 : decode cX4_canLie 101 = .ok (.if_icmp .ge 24, 3) := by decide +kernel
theorem dX4_canLie_104 : decode cX4_canLie 104 = .ok (.aload_n 1, 1) := by decide +kernel
theorem dX4_canLie_105 : decode cX4_canLie 105 = .ok (.iload 10, 2) := by decide +kernel
theorem dX4_canLie_107 : decode cX4_canLie 107 = .ok (.invokevirtual 83, 3) := by decide +kernel
theorem dX4_canLie_110 : decode cX4_canLie 110 = .ok (.ifCond .eq 15, 3) := by decide +kernel
theorem dX4_canLie_113 : decode cX4_canLie 113 = .ok (.aload_n 2, 1) := by decide +kernel
theorem dX4_canLie_114 : decode cX4_canLie 114 = .ok (.iload 10, 2) := by decide +kernel
theorem dX4_canLie_116 : decode cX4_canLie 116 = .ok (.invokevirtual 69, 3) := by decide +kernel
theorem dX4_canLie_119 : decode cX4_canLie 119 = .ok (.iload_n 3, 1) := by decide +kernel
theorem dX4_canLie_120 : decode cX4_canLie 120 = .ok (.if_icmp .eq 5, 3) := by decide +kernel
theorem dX4_canLie_123 : decode cX4_canLie 123 = .ok (.iconst 0, 1) := by decide +kernel
theorem dX4_canLie_124 : decode cX4_canLie 124 = .ok (.ireturn, 1) := by decide +kernel
theorem dX4_canLie_125 : decode cX4_canLie 125 = .ok (.iinc 7 1, 3) := by decide +kernel
theorem dX4_canLie_128 : decode cX4_canLie 128 = .ok (.goto (-111), 3) := by decide +kernel
theorem dX4_canLie_131 : decode cX4_canLie 131 = .ok (.iconst 1, 1) := by decide +kernel
theorem dX4_canLie_132 : decode cX4_canLie 132 = .ok (.ireturn, 1) := by decide +kernel
theorem dX4_traceBack_0 : decode cX4_traceBack 0 = .ok (.iconst 0, 1) := by decide +kernel
theorem dX4_traceBack_1 : decode cX4_traceBack 1 = .ok (.istore_n 2, 1) := by decide +kernel
theorem dX4_traceBack_2 : decode cX4_traceBack 2 = .ok (.iload_n 1, 1) := by decide +kernel
theorem dX4_traceBack_3 : decode cX4_traceBack 3 = .ok (.istore_n 3, 1) := by decide +kernel
theorem dX4_traceBack_4 : decode cX4_traceBack 4 = .ok (.iconst 0, 1) := by decide +kernel
theorem dX4_traceBack_5 : decode cX4_traceBack 5 = .ok (.istore 4, 2) := by decide +kernel
theorem dX4_traceBack_7 : decode cX4_traceBack 7 = .ok (.iload 4, 2) := by decide +kernel
theorem dX4_traceBack_9 : decode cX4_traceBack 9 = .ok (.sipush 240, 3) := by decide +kernel
theorem dX4_traceBack_12 : decode cX4_traceBack 12 = .ok (.if_icmp .ge 32, 3) := by decide +kernel
theorem dX4_traceBack_15 : decode cX4_traceBack 15 = .ok (.iload_n 3, 1) := by decide +kernel
theorem dX4_traceBack_16 : decode cX4_traceBack 16 = .ok (.bipush 112, 2) := by decide +kernel
theorem dX4_traceBack_18 : decode cX4_traceBack 18 = .ok (.if_icmp .eq 26, 3) := by decide +kernel
theorem dX4_traceBack_21 : decode cX4_traceBack 21 = .ok (.iinc 2 1, 3) := by decide +kernel
theorem dX4_traceBack_24 : decode cX4_traceBack 24 = .ok (.iload_n 3, 1) := by decide +kernel
theorem dX4_traceBack_25 : decode cX4_traceBack 25 = .ok (.aload_n 0, 1) := by decide +kernel
theorem dX4_traceBack_26 : decode cX4_traceBack 26 = .ok (.getfield 27, 3) := by decide +kernel
theorem dX4_traceBack_29 : decode cX4_traceBack 29 = .ok (.iload_n 3, 1) := by decide +kernel
theorem dX4_traceBack_30 : decode cX4_traceBack 30 = .ok (.invokevirtual 44, 3) := by decide +kernel
theorem dX4_traceBack_33 : decode cX4_traceBack 33 = .ok (.invokestatic 48, 3) := by decide +kernel
theorem dX4_traceBack_36 : decode cX4_traceBack 36 = .ok (.isub, 1) := by decide +kernel
theorem dX4_traceBack_37 : decode cX4_traceBack 37 = .ok (.istore_n 3, 1) := by decide +kernel
theorem dX4_traceBack_38 : decode cX4_traceBack 38 = .ok (.iinc 4 1, 3) := by decide +kernel
theorem dX4_traceBack_41 : decode cX4_traceBack 41 = .ok (.goto (-34), 3) := by decide +kernel
theorem dX4_traceBack_44 : decode cX4_traceBack 44 = .ok (.iload_n 1, 1) := by decide +kernel
theorem dX4_traceBack_45 : decode cX4_traceBack 45 = .ok (.istore_n 3, 1) := by decide +kernel
theorem dX4_traceBack_46 : decode cX4_traceBack 46 = .ok (.iload_n 2, 1) := by decide +kernel
theorem dX4_traceBack_47 : decode cX4_traceBack 47 = .ok (.iconst 1, 1) := by decide +kernel
theorem dX4_traceBack_48 : decode cX4_traceBack 48 = .ok (.isub, 1) := by decide +kernel
theorem dX4_traceBack_49 : decode cX4_traceBack 49 = .ok (.istore 4, 2) := by decide +kernel
theorem dX4_traceBack_51 : decode cX4_traceBack 51 = .ok (.iload 4, 2) := by decide +kernel
theorem dX4_traceBack_53 : decode cX4_traceBack 53 = .ok (.ifCond .lt 40, 3) := by decide +kernel
theorem dX4_traceBack_56 : decode cX4_traceBack 56 = .ok (.aload_n 0, 1) := by decide +kernel
theorem dX4_traceBack_57 : decode cX4_traceBack 57 = .ok (.getfield 16, 3) := by decide +kernel
theorem dX4_traceBack_60 : decode cX4_traceBack 60 = .ok (.iload 4, 2) := by decide +kernel
theorem dX4_traceBack_62 : decode cX4_traceBack 62 = .ok (.aload_n 0, 1) := by decide +kernel
theorem dX4_traceBack_63 : decode cX4_traceBack 63 = .ok (.getfield 27, 3) := by decide +kernel
theorem dX4_traceBack_66 : decode cX4_traceBack 66 = .ok (.iload_n 3, 1) := by decide +kernel
theorem dX4_traceBack_67 : decode cX4_traceBack 67 = .ok (.invokevirtual 44, 3) := by decide +kernel
theorem dX4_traceBack_70 : decode cX4_traceBack 70 = .ok (.invokevirtual 40, 3) := by decide +kernel
theorem dX4_traceBack_73 : decode cX4_traceBack 73 = .ok (.iload_n 3, 1) := by decide +kernel
theorem dX4_traceBack_74 : decode cX4_traceBack 74 = .ok (.aload_n 0, 1) := by decide +kernel
theorem dX4_traceBack_75 : decode cX4_traceBack 75 = .ok (.getfield 27, 3) := by decide +kernel
theorem dX4_traceBack_78 : decode cX4_traceBack 78 = .ok (.iload_n 3, 1) := by decide +kernel
theorem dX4_traceBack_79 : decode cX4_traceBack 79 = .ok (.invokevirtual 44, 3) := by decide +kernel
theorem dX4_traceBack_82 : decode cX4_traceBack 82 = .ok (.invokestatic 48, 3) := by decide +kernel
theorem dX4_traceBack_85 : decode cX4_traceBack 85 = .ok (.isub, 1) := by decide +kernel
theorem dX4_traceBack_86 : decode cX4_traceBack 86 = .ok (.istore_n 3, 1) := by decide +kernel
theorem dX4_traceBack_87 : decode cX4_traceBack 87 = .ok (.iinc 4 (-1), 3) := by decide +kernel
theorem dX4_traceBack_90 : decode cX4_traceBack 90 = .ok (.goto (-39), 3) := by decide +kernel
theorem dX4_traceBack_93 : decode cX4_traceBack 93 = .ok (.iload_n 2, 1) := by decide +kernel
theorem dX4_traceBack_94 : decode cX4_traceBack 94 = .ok (.ireturn, 1) := by decide +kernel
theorem dX4_stepOf_0 : decode cX4_stepOf 0 = .ok (.iload_n 0, 1) := by decide +kernel
theorem dX4_stepOf_1 : decode cX4_stepOf 1 = .ok (.tableswitch 41 0 3 #[31, 33, 35, 38], 31) := by decide +kernel
theorem dX4_stepOf_32 : decode cX4_stepOf 32 = .ok (.iconst (-1), 1) := by decide +kernel
theorem dX4_stepOf_33 : decode cX4_stepOf 33 = .ok (.ireturn, 1) := by decide +kernel
theorem dX4_stepOf_34 : decode cX4_stepOf 34 = .ok (.iconst 1, 1) := by decide +kernel
theorem dX4_stepOf_35 : decode cX4_stepOf 35 = .ok (.ireturn, 1) := by decide +kernel
theorem dX4_stepOf_36 : decode cX4_stepOf 36 = .ok (.bipush (-15), 2) := by decide +kernel
theorem dX4_stepOf_38 : decode cX4_stepOf 38 = .ok (.ireturn, 1) := by decide +kernel
theorem dX4_stepOf_39 : decode cX4_stepOf 39 = .ok (.bipush 15, 2) := by decide +kernel
theorem dX4_stepOf_41 : decode cX4_stepOf 41 = .ok (.ireturn, 1) := by decide +kernel
theorem dX4_stepOf_42 : decode cX4_stepOf 42 = .ok (.iconst 0, 1) := by decide +kernel
theorem dX4_stepOf_43 : decode cX4_stepOf 43 = .ok (.ireturn, 1) := by decide +kernel
theorem dX4_downAt_0 : decode cX4_downAt 0 = .ok (.iload_n 0, 1) := by decide +kernel
theorem dX4_downAt_1 : decode cX4_downAt 1 = .ok (.bipush 15, 2) := by decide +kernel
theorem dX4_downAt_3 : decode cX4_downAt 3 = .ok (.idiv, 1) := by decide +kernel
theorem dX4_downAt_4 : decode cX4_downAt 4 = .ok (.bipush 7, 2) := by decide +kernel
theorem dX4_downAt_6 : decode cX4_downAt 6 = .ok (.isub, 1) := by decide +kernel
theorem dX4_downAt_7 : decode cX4_downAt 7 = .ok (.ireturn, 1) := by decide +kernel
theorem dX4_rightAt_0 : decode cX4_rightAt 0 = .ok (.iload_n 0, 1) := by decide +kernel
theorem dX4_rightAt_1 : decode cX4_rightAt 1 = .ok (.bipush 15, 2) := by decide +kernel
theorem dX4_rightAt_3 : decode cX4_rightAt 3 = .ok (.irem, 1) := by decide +kernel
theorem dX4_rightAt_4 : decode cX4_rightAt 4 = .ok (.bipush 7, 2) := by decide +kernel
theorem dX4_rightAt_6 : decode cX4_rightAt 6 = .ok (.isub, 1) := by decide +kernel
theorem dX4_rightAt_7 : decode cX4_rightAt 7 = .ok (.ireturn, 1) := by decide +kernel
theorem dX5_init_0 : decode cX5_init 0 = .ok (.aload_n 0, 1) := by decide +kernel
theorem dX5_init_1 : decode cX5_init 1 = .ok (.invokespecial 1, 3) := by decide +kernel
theorem dX5_init_4 : decode cX5_init 4 = .ok (.aload_n 0, 1) := by decide +kernel
theorem dX5_init_5 : decode cX5_init 5 = .ok (.new 7, 3) := by decide +kernel
theorem dX5_init_8 : decode cX5_init 8 = .ok (.dup, 1) := by decide +kernel
theorem dX5_init_9 : decode cX5_init 9 = .ok (.invokespecial 9, 3) := by decide +kernel
theorem dX5_init_12 : decode cX5_init 12 = .ok (.putfield 10, 3) := by decide +kernel
theorem dX5_init_15 : decode cX5_init 15 = .ok (.aload_n 0, 1) := by decide +kernel
theorem dX5_init_16 : decode cX5_init 16 = .ok (.new 7, 3) := by decide +kernel
theorem dX5_init_19 : decode cX5_init 19 = .ok (.dup, 1) := by decide +kernel
theorem dX5_init_20 : decode cX5_init 20 = .ok (.invokespecial 9, 3) := by decide +kernel
theorem dX5_init_23 : decode cX5_init 23 = .ok (.putfield 16, 3) := by decide +kernel
theorem dX5_init_26 : decode cX5_init 26 = .ok (.aload_n 0, 1) := by decide +kernel
theorem dX5_init_27 : decode cX5_init 27 = .ok (.iconst 4, 1) := by decide +kernel
theorem dX5_init_28 : decode cX5_init 28 = .ok (.anewarray 7, 3) := by decide +kernel
theorem dX5_init_31 : decode cX5_init 31 = .ok (.putfield 19, 3) := by decide +kernel
theorem dX5_init_34 : decode cX5_init 34 = .ok (.aload_n 0, 1) := by decide +kernel
theorem dX5_init_35 : decode cX5_init 35 = .ok (.iconst 0, 1) := by decide +kernel
theorem dX5_init_36 : decode cX5_init 36 = .ok (.putfield 23, 3) := by decide +kernel
theorem dX5_init_39 : decode cX5_init 39 = .ok (.aload_n 0, 1) := by decide +kernel
theorem dX5_init_40 : decode cX5_init 40 = .ok (.iconst 0, 1) := by decide +kernel
theorem dX5_init_41 : decode cX5_init 41 = .ok (.putfield 27, 3) := by decide +kernel
theorem dX5_init_44 : decode cX5_init 44 = .ok (.aload_n 0, 1) := by decide +kernel
theorem dX5_init_45 : decode cX5_init 45 = .ok (.new 30, 3) := by decide +kernel
theorem dX5_init_48 : decode cX5_init 48 = .ok (.dup, 1) := by decide +kernel
theorem dX5_init_49 : decode cX5_init 49 = .ok (.invokespecial 32, 3) := by decide +kernel
theorem dX5_init_52 : decode cX5_init 52 = .ok (.putfield 33, 3) := by decide +kernel
theorem dX5_init_55 : decode cX5_init 55 = .ok (.aload_n 0, 1) := by decide +kernel
theorem dX5_init_56 : decode cX5_init 56 = .ok (.new 37, 3) := by decide +kernel
theorem dX5_init_59 : decode cX5_init 59 = .ok (.dup, 1) := by decide +kernel
theorem dX5_init_60 : decode cX5_init 60 = .ok (.invokespecial 39, 3) := by decide +kernel
theorem dX5_init_63 : decode cX5_init 63 = .ok (.putfield 40, 3) := by decide +kernel
theorem dX5_init_66 : decode cX5_init 66 = .ok (.aload_n 0, 1) := by decide +kernel
theorem dX5_init_67 : decode cX5_init 67 = .ok (.new 44, 3) := by decide +kernel
theorem dX5_init_70 : decode cX5_init 70 = .ok (.dup, 1) := by decide +kernel
theorem dX5_init_71 : decode cX5_init 71 = .ok (.invokespecial 46, 3) := by decide +kernel
theorem dX5_init_74 : decode cX5_init 74 = .ok (.putfield 47, 3) := by decide +kernel
theorem dX5_init_77 : decode cX5_init 77 = .ok (.aload_n 0, 1) := by decide +kernel
theorem dX5_init_78 : decode cX5_init 78 = .ok (.new 51, 3) := by decide +kernel
theorem dX5_init_81 : decode cX5_init 81 = .ok (.dup, 1) := by decide +kernel
theorem dX5_init_82 : decode cX5_init 82 = .ok (.bipush 49, 2) := by decide +kernel
theorem dX5_init_84 : decode cX5_init 84 = .ok (.invokespecial 53, 3) := by decide +kernel
theorem dX5_init_87 : decode cX5_init 87 = .ok (.putfield 56, 3) := by decide +kernel
theorem dX5_init_90 : decode cX5_init 90 = .ok (.iconst 0, 1) := by decide +kernel
theorem dX5_init_91 : decode cX5_init 91 = .ok (.istore_n 1, 1) := by decide +kernel
theorem dX5_init_92 : decode cX5_init 92 = .ok (.iload_n 1, 1) := by decide +kernel
theorem dX5_init_93 : decode cX5_init 93 = .ok (.aload_n 0, 1) := by decide +kernel
theorem dX5_init_94 : decode cX5_init 94 = .ok (.getfield 19, 3) := by decide +kernel
theorem dX5_init_97 : decode cX5_init 97 = .ok (.arraylength, 1) := by decide +kernel
theorem dX5_init_98 : decode cX5_init 98 = .ok (.if_icmp .ge 22, 3) := by decide +kernel
theorem dX5_init_101 : decode cX5_init 101 = .ok (.aload_n 0, 1) := by decide +kernel
theorem dX5_init_102 : decode cX5_init 102 = .ok (.getfield 19, 3) := by decide +kernel
theorem dX5_init_105 : decode cX5_init 105 = .ok (.iload_n 1, 1) := by decide +kernel
theorem dX5_init_106 : decode cX5_init 106 = .ok (.new 7, 3) := by decide +kernel
theorem dX5_init_109 : decode cX5_init 109 = .ok (.dup, 1) := by decide +kernel
theorem dX5_init_110 : decode cX5_init 110 = .ok (.invokespecial 9, 3) := by decide +kernel
theorem dX5_init_113 : decode cX5_init 113 = .ok (.aastore, 1) := by decide +kernel
theorem dX5_init_114 : decode cX5_init 114 = .ok (.iinc 1 1, 3) := by decide +kernel
theorem dX5_init_117 : decode cX5_init 117 = .ok (.goto (-25), 3) := by decide +kernel
theorem dX5_init_120 : decode cX5_init 120 = .ok (.aload_n 0, 1) := by decide +kernel
theorem dX5_init_121 : decode cX5_init 121 = .ok (.getfield 10, 3) := by decide +kernel
theorem dX5_init_124 : decode cX5_init 124 = .ok (.iconst 1, 1) := by decide +kernel
theorem dX5_init_125 : decode cX5_init 125 = .ok (.putfield 60, 3) := by decide +kernel
theorem dX5_init_128 : decode cX5_init 128 = .ok (.aload_n 0, 1) := by decide +kernel
theorem dX5_init_129 : decode cX5_init 129 = .ok (.getfield 10, 3) := by decide +kernel
theorem dX5_init_132 : decode cX5_init 132 = .ok (.iconst 4, 1) := by decide +kernel
theorem dX5_init_133 : decode cX5_init 133 = .ok (.iconst 4, 1) := by decide +kernel
theorem dX5_init_134 : decode cX5_init 134 = .ok (.invokevirtual 63, 3) := by decide +kernel
theorem dX5_init_137 : decode cX5_init 137 = .ok (.aload_n 0, 1) := by decide +kernel
theorem dX5_init_138 : decode cX5_init 138 = .ok (.getfield 10, 3) := by decide +kernel
theorem dX5_init_141 : decode cX5_init 141 = .ok (.bipush 10, 2) := by decide +kernel
theorem dX5_init_143 : decode cX5_init 143 = .ok (.invokevirtual 67, 3) := by decide +kernel
theorem dX5_init_146 : decode cX5_init 146 = .ok (.return_, 1) := by decide +kernel
theorem dX5_make_0 : decode cX5_make 0 = .ok (.iload_n 1, 1) := by decide +kernel
theorem dX5_make_1 : decode cX5_make 1 = .ok (.iconst 2, 1) := by decide +kernel
theorem dX5_make_2 : decode cX5_make 2 = .ok (.bipush 7, 2) := by decide +kernel
theorem dX5_make_4 : decode cX5_make 4 = .ok (.invokestatic 70, 3) := by decide +kernel
theorem dX5_make_7 : decode cX5_make 7 = .ok (.ifCond .ne 23, 3) := by decide +kernel
theorem dX5_make_10 : decode cX5_make 10 = .ok (.iload_n 2, 1) := by decide +kernel
theorem dX5_make_11 : decode cX5_make 11 = .ok (.iconst 2, 1) := by decide +kernel
theorem dX5_make_12 : decode cX5_make 12 = .ok (.bipush 7, 2) := by decide +kernel
theorem dX5_make_14 : decode cX5_make 14 = .ok (.invokestatic 70, 3) := by decide +kernel
theorem dX5_make_17 : decode cX5_make 17 = .ok (.ifCond .ne 13, 3) := by decide +kernel
theorem dX5_make_20 : decode cX5_make 20 = .ok (.iload_n 3, 1) := by decide +kernel
theorem dX5_make_21 : decode cX5_make 21 = .ok (.iconst 0, 1) := by decide +kernel
theorem dX5_make_22 : decode cX5_make 22 = .ok (.bipush 50, 2) := by decide +kernel
theorem dX5_make_24 : decode cX5_make 24 = .ok (.invokestatic 70, 3) := by decide +kernel
theorem dX5_make_27 : decode cX5_make 27 = .ok (.ifCond .eq 13, 3) := by decide +kernel
theorem dX5_make_30 : decode cX5_make 30 = .ok (.new 74, 3) := by decide +kernel
theorem dX5_make_33 : decode cX5_make 33 = .ok (.dup, 1) := by decide +kernel
theorem dX5_make_34 : decode cX5_make 34 = .ok (.ldc 76, 2) := by decide +kernel
theorem dX5_make_36 : decode cX5_make 36 = .ok (.invokespecial 78, 3) := by decide +kernel
theorem dX5_make_39 : decode cX5_make 39 = .ok (.athrow, 1) := by decide +kernel
theorem dX5_make_40 : decode cX5_make 40 = .ok (.aload_n 0, 1) := by decide +kernel
theorem dX5_make_41 : decode cX5_make 41 = .ok (.invokevirtual 81, 3) := by decide +kernel
theorem dX5_make_44 : decode cX5_make 44 = .ok (.aload_n 0, 1) := by decide +kernel
theorem dX5_make_45 : decode cX5_make 45 = .ok (.getfield 10, 3) := by decide +kernel
theorem dX5_make_48 : decode cX5_make 48 = .ok (.iload_n 1, 1) := by decide +kernel
theorem dX5_make_49 : decode cX5_make 49 = .ok (.iload_n 2, 1) := by decide +kernel
theorem dX5_make_50 : decode cX5_make 50 = .ok (.invokevirtual 63, 3) := by decide +kernel
theorem dX5_make_53 : decode cX5_make 53 = .ok (.aload_n 0, 1) := by decide +kernel
theorem dX5_make_54 : decode cX5_make 54 = .ok (.getfield 10, 3) := by decide +kernel
theorem dX5_make_57 : decode cX5_make 57 = .ok (.iload_n 3, 1) := by decide +kernel
theorem dX5_make_58 : decode cX5_make 58 = .ok (.invokevirtual 67, 3) := by decide +kernel
theorem dX5_make_61 : decode cX5_make 61 = .ok (.aload_n 0, 1) := by decide +kernel
theorem dX5_make_62 : decode cX5_make 62 = .ok (.getfield 10, 3) := by decide +kernel
theorem dX5_make_65 : decode cX5_make 65 = .ok (.getfield 84, 3) := by decide +kernel
theorem dX5_make_68 : decode cX5_make 68 = .ok (.ireturn, 1) := by decide +kernel
theorem dX5_lay_0 : decode cX5_lay 0 = .ok (.aload_n 0, 1) := by decide +kernel
theorem dX5_lay_1 : decode cX5_lay 1 = .ok (.iload_n 1, 1) := by decide +kernel
theorem dX5_lay_2 : decode cX5_lay 2 = .ok (.invokevirtual 87, 3) := by decide +kernel
theorem dX5_lay_5 : decode cX5_lay 5 = .ok (.iload_n 2, 1) := by decide +kernel
theorem dX5_lay_6 : decode cX5_lay 6 = .ok (.iconst 1, 1) := by decide +kernel
theorem dX5_lay_7 : decode cX5_lay 7 = .ok (.bipush 50, 2) := by decide +kernel
theorem dX5_lay_9 : decode cX5_lay 9 = .ok (.invokestatic 70, 3) := by decide +kernel
theorem dX5_lay_12 : decode cX5_lay 12 = .ok (.ifCond .eq 13, 3) := by decide +kernel
theorem dX5_lay_15 : decode cX5_lay 15 = .ok (.new 74, 3) := by decide +kernel
theorem dX5_lay_18 : decode cX5_lay 18 = .ok (.dup, 1) := by decide +kernel
theorem dX5_lay_19 : decode cX5_lay 19 = .ok (.ldc 90, 2) := by decide +kernel
theorem dX5_lay_21 : decode cX5_lay 21 = .ok (.invokespecial 78, 3) := by decide +kernel
theorem dX5_lay_24 : decode cX5_lay 24 = .ok (.athrow, 1) := by decide +kernel
theorem dX5_lay_25 : decode cX5_lay 25 = .ok (.aload_n 0, 1) := by decide +kernel
theorem dX5_lay_26 : decode cX5_lay 26 = .ok (.getfield 10, 3) := by decide +kernel
theorem dX5_lay_29 : decode cX5_lay 29 = .ok (.getfield 92, 3) := by decide +kernel
theorem dX5_lay_32 : decode cX5_lay 32 = .ok (.iload_n 1, 1) := by decide +kernel
theorem dX5_lay_33 : decode cX5_lay 33 = .ok (.invokevirtual 95, 3) := by decide +kernel
theorem dX5_lay_36 : decode cX5_lay 36 = .ok (.iload_n 2, 1) := by decide +kernel
theorem dX5_lay_37 : decode cX5_lay 37 = .ok (.iadd, 1) := by decide +kernel
theorem dX5_lay_38 : decode cX5_lay 38 = .ok (.bipush 50, 2) := by decide +kernel
theorem dX5_lay_40 : decode cX5_lay 40 = .ok (.if_icmp .le 13, 3) := by decide +kernel
theorem dX5_lay_43 : decode cX5_lay 43 = .ok (.new 99, 3) := by decide +kernel
theorem dX5_lay_46 : decode cX5_lay 46 = .ok (.dup, 1) := by decide +kernel
theorem dX5_lay_47 : decode cX5_lay 47 = .ok (.ldc 101, 2) := by decide +kernel
theorem dX5_lay_49 : decode cX5_lay 49 = .ok (.invokespecial 103, 3) := by decide +kernel
theorem dX5_lay_52 : decode cX5_lay 52 = .ok (.athrow, 1) := by decide +kernel
theorem dX5_lay_53 : decode cX5_lay 53 = .ok (.aload_n 0, 1) := by decide +kernel
theorem dX5_lay_54 : decode cX5_lay 54 = .ok (.invokevirtual 81, 3) := by decide +kernel
theorem dX5_lay_57 : decode cX5_lay 57 = .ok (.aload_n 0, 1) := by decide +kernel
theorem dX5_lay_58 : decode cX5_lay 58 = .ok (.getfield 10, 3) := by decide +kernel
theorem dX5_lay_61 : decode cX5_lay 61 = .ok (.iload_n 1, 1) := by decide +kernel
theorem dX5_lay_62 : decode cX5_lay 62 = .ok (.iload_n 2, 1) := by decide +kernel
theorem dX5_lay_63 : decode cX5_lay 63 = .ok (.invokevirtual 104, 3) := by decide +kernel
theorem dX5_lay_66 : decode cX5_lay 66 = .ok (.aload_n 0, 1) := by decide +kernel
theorem dX5_lay_67 : decode cX5_lay 67 = .ok (.getfield 10, 3) := by decide +kernel
theorem dX5_lay_70 : decode cX5_lay 70 = .ok (.getfield 92, 3) := by decide +kernel
theorem dX5_lay_73 : decode cX5_lay 73 = .ok (.iload_n 1, 1) := by decide +kernel
theorem dX5_lay_74 : decode cX5_lay 74 = .ok (.invokevirtual 95, 3) := by decide +kernel
theorem dX5_lay_77 : decode cX5_lay 77 = .ok (.ireturn, 1) := by decide +kernel
theorem dX5_saw_0 : decode cX5_saw 0 = .ok (.aload_n 0, 1) := by decide +kernel
theorem dX5_saw_1 : decode cX5_saw 1 = .ok (.iload_n 1, 1) := by decide +kernel
theorem dX5_saw_2 : decode cX5_saw 2 = .ok (.invokevirtual 87, 3) := by decide +kernel
theorem dX5_saw_5 : decode cX5_saw 5 = .ok (.iload_n 2, 1) := by decide +kernel
theorem dX5_saw_6 : decode cX5_saw 6 = .ok (.iconst 0, 1) := by decide +kernel
theorem dX5_saw_7 : decode cX5_saw 7 = .ok (.iconst 3, 1) := by decide +kernel
theorem dX5_saw_8 : decode cX5_saw 8 = .ok (.invokestatic 70, 3) := by decide +kernel
theorem dX5_saw_11 : decode cX5_saw 11 = .ok (.ifCond .eq 13, 3) := by decide +kernel
theorem dX5_saw_14 : decode cX5_saw 14 = .ok (.new 74, 3) := by decide +kernel
theorem dX5_saw_17 : decode cX5_saw 17 = .ok (.dup, 1) := by decide +kernel
theorem dX5_saw_18 : decode cX5_saw 18 = .ok (.ldc 107, 2) := by decide +kernel
theorem dX5_saw_20 : decode cX5_saw 20 = .ok (.invokespecial 78, 3) := by decide +kernel
theorem dX5_saw_23 : decode cX5_saw 23 = .ok (.athrow, 1) := by decide +kernel
theorem dX5_saw_24 : decode cX5_saw 24 = .ok (.aload_n 0, 1) := by decide +kernel
theorem dX5_saw_25 : decode cX5_saw 25 = .ok (.getfield 10, 3) := by decide +kernel
theorem dX5_saw_28 : decode cX5_saw 28 = .ok (.iload_n 1, 1) := by decide +kernel
theorem dX5_saw_29 : decode cX5_saw 29 = .ok (.iload_n 2, 1) := by decide +kernel
theorem dX5_saw_30 : decode cX5_saw 30 = .ok (.invokevirtual 109, 3) := by decide +kernel
theorem dX5_saw_33 : decode cX5_saw 33 = .ok (.ifCond .ne 13, 3) := by decide +kernel
theorem dX5_saw_36 : decode cX5_saw 36 = .ok (.new 99, 3) := by decide +kernel
theorem dX5_saw_39 : decode cX5_saw 39 = .ok (.dup, 1) := by decide +kernel
theorem dX5_saw_40 : decode cX5_saw 40 = .ok (.ldc 113, 2) := by decide +kernel
theorem dX5_saw_42 : decode cX5_saw 42 = .ok (.invokespecial 103, 3) := by decide +kernel
theorem dX5_saw_45 : decode cX5_saw 45 = .ok (.athrow, 1) := by decide +kernel
theorem dX5_saw_46 : decode cX5_saw 46 = .ok (.aload_n 0, 1) := by decide +kernel
theorem dX5_saw_47 : decode cX5_saw 47 = .ok (.invokevirtual 81, 3) := by decide +kernel
theorem dX5_saw_50 : decode cX5_saw 50 = .ok (.aload_n 0, 1) := by decide +kernel
theorem dX5_saw_51 : decode cX5_saw 51 = .ok (.getfield 10, 3) := by decide +kernel
theorem dX5_saw_54 : decode cX5_saw 54 = .ok (.iload_n 1, 1) := by decide +kernel
theorem dX5_saw_55 : decode cX5_saw 55 = .ok (.iload_n 2, 1) := by decide +kernel
theorem dX5_saw_56 : decode cX5_saw 56 = .ok (.invokevirtual 115, 3) := by decide +kernel
theorem dX5_saw_59 : decode cX5_saw 59 = .ok (.ireturn, 1) := by decide +kernel
theorem dX5_sawAround_0 : decode cX5_sawAround 0 = .ok (.aload_n 0, 1) := by decide +kernel
theorem dX5_sawAround_1 : decode cX5_sawAround 1 = .ok (.iload_n 1, 1) := by decide +kernel
theorem dX5_sawAround_2 : decode cX5_sawAround 2 = .ok (.iload_n 2, 1) := by decide +kernel
theorem dX5_sawAround_3 : decode cX5_sawAround 3 = .ok (.iload_n 3, 1) := by decide +kernel
theorem dX5_sawAround_4 : decode cX5_sawAround 4 = .ok (.invokevirtual 119, 3) := by decide +kernel
theorem dX5_sawAround_7 : decode cX5_sawAround 7 = .ok (.aload_n 0, 1) := by decide +kernel
theorem dX5_sawAround_8 : decode cX5_sawAround 8 = .ok (.invokevirtual 81, 3) := by decide +kernel
theorem dX5_sawAround_11 : decode cX5_sawAround 11 = .ok (.aload_n 0, 1) := by decide +kernel
theorem dX5_sawAround_12 : decode cX5_sawAround 12 = .ok (.getfield 10, 3) := by decide +kernel
theorem dX5_sawAround_15 : decode cX5_sawAround 15 = .ok (.iload_n 1, 1) := by decide +kernel
theorem dX5_sawAround_16 : decode cX5_sawAround 16 = .ok (.iload_n 2, 1) := by decide +kernel
theorem dX5_sawAround_17 : decode cX5_sawAround 17 = .ok (.iload_n 3, 1) := by decide +kernel
theorem dX5_sawAround_18 : decode cX5_sawAround 18 = .ok (.invokevirtual 123, 3) := by decide +kernel
theorem dX5_sawAround_21 : decode cX5_sawAround 21 = .ok (.ireturn, 1) := by decide +kernel
theorem dX5_takeOut_0 : decode cX5_takeOut 0 = .ok (.aload_n 0, 1) := by decide +kernel
theorem dX5_takeOut_1 : decode cX5_takeOut 1 = .ok (.iload_n 1, 1) := by decide +kernel
theorem dX5_takeOut_2 : decode cX5_takeOut 2 = .ok (.invokevirtual 87, 3) := by decide +kernel
theorem dX5_takeOut_5 : decode cX5_takeOut 5 = .ok (.aload_n 0, 1) := by decide +kernel
theorem dX5_takeOut_6 : decode cX5_takeOut 6 = .ok (.getfield 40, 3) := by decide +kernel
theorem dX5_takeOut_9 : decode cX5_takeOut 9 = .ok (.aload_n 0, 1) := by decide +kernel
theorem dX5_takeOut_10 : decode cX5_takeOut 10 = .ok (.getfield 10, 3) := by decide +kernel
theorem dX5_takeOut_13 : decode cX5_takeOut 13 = .ok (.invokevirtual 127, 3) := by decide +kernel
theorem dX5_takeOut_16 : decode cX5_takeOut 16 = .ok (.aload_n 0, 1) := by decide +kernel
theorem dX5_takeOut_17 : decode cX5_takeOut 17 = .ok (.getfield 40, 3) := by decide +kernel
theorem dX5_takeOut_20 : decode cX5_takeOut 20 = .ok (.iload_n 1, 1) := by decide +kernel
theorem dX5_takeOut_21 : decode cX5_takeOut 21 = .ok (.invokevirtual 131, 3) := by decide +kernel
theorem dX5_takeOut_24 : decode cX5_takeOut 24 = .ok (.istore_n 2, 1) := by decide +kernel
theorem dX5_takeOut_25 : decode cX5_takeOut 25 = .ok (.aload_n 0, 1) := by decide +kernel
theorem dX5_takeOut_26 : decode cX5_takeOut 26 = .ok (.getfield 40, 3) := by decide +kernel
theorem dX5_takeOut_29 : decode cX5_takeOut 29 = .ok (.iload_n 2, 1) := by decide +kernel
theorem dX5_takeOut_30 : decode cX5_takeOut 30 = .ok (.invokevirtual 134, 3) := by decide +kernel
theorem dX5_takeOut_33 : decode cX5_takeOut 33 = .ok (.ifCond .eq 23, 3) := by decide +kernel
theorem dX5_takeOut_36 : decode cX5_takeOut 36 = .ok (.aload_n 0, 1) := by decide +kernel
theorem dX5_takeOut_37 : decode cX5_takeOut 37 = .ok (.getfield 47, 3) := by decide +kernel
theorem dX5_takeOut_40 : decode cX5_takeOut 40 = .ok (.aload_n 0, 1) := by decide +kernel
theorem dX5_takeOut_41 : decode cX5_takeOut 41 = .ok (.getfield 10, 3) := by decide +kernel
