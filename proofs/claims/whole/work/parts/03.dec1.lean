theorem dX0_init_0 : decode cX0_init 0 = .ok (.aload_n 0, 1) := by decide +kernel
theorem dX0_init_1 : decode cX0_init 1 = .ok (.invokespecial 3, 3) := by decide +kernel
theorem dX0_init_4 : decode cX0_init 4 = .ok (.aload_n 0, 1) := by decide +kernel
theorem dX0_init_5 : decode cX0_init 5 = .ok (.new 9, 3) := by decide +kernel
theorem dX0_init_8 : decode cX0_init 8 = .ok (.dup, 1) := by decide +kernel
theorem dX0_init_9 : decode cX0_init 9 = .ok (.bipush 49, 2) := by decide +kernel
theorem dX0_init_11 : decode cX0_init 11 = .ok (.invokespecial 11, 3) := by decide +kernel
theorem dX0_init_14 : decode cX0_init 14 = .ok (.putfield 14, 3) := by decide +kernel
theorem dX0_init_17 : decode cX0_init 17 = .ok (.aload_n 0, 1) := by decide +kernel
theorem dX0_init_18 : decode cX0_init 18 = .ok (.new 9, 3) := by decide +kernel
theorem dX0_init_21 : decode cX0_init 21 = .ok (.dup, 1) := by decide +kernel
theorem dX0_init_22 : decode cX0_init 22 = .ok (.bipush 49, 2) := by decide +kernel
theorem dX0_init_24 : decode cX0_init 24 = .ok (.invokespecial 11, 3) := by decide +kernel
theorem dX0_init_27 : decode cX0_init 27 = .ok (.putfield 20, 3) := by decide +kernel
theorem dX0_init_30 : decode cX0_init 30 = .ok (.aload_n 0, 1) := by decide +kernel
theorem dX0_init_31 : decode cX0_init 31 = .ok (.new 9, 3) := by decide +kernel
theorem dX0_init_34 : decode cX0_init 34 = .ok (.dup, 1) := by decide +kernel
theorem dX0_init_35 : decode cX0_init 35 = .ok (.bipush 49, 2) := by decide +kernel
theorem dX0_init_37 : decode cX0_init 37 = .ok (.invokespecial 11, 3) := by decide +kernel
theorem dX0_init_40 : decode cX0_init 40 = .ok (.putfield 23, 3) := by decide +kernel
theorem dX0_init_43 : decode cX0_init 43 = .ok (.return_, 1) := by decide +kernel
theorem dX0_find_0 : decode cX0_find 0 = .ok (.aload_n 0, 1) := by decide +kernel
theorem dX0_find_1 : decode cX0_find 1 = .ok (.getfield 14, 3) := by decide +kernel
theorem dX0_find_4 : decode cX0_find 4 = .ok (.iconst (-1), 1) := by decide +kernel
theorem dX0_find_5 : decode cX0_find 5 = .ok (.invokevirtual 26, 3) := by decide +kernel
theorem dX0_find_8 : decode cX0_find 8 = .ok (.aload_n 0, 1) := by decide +kernel
theorem dX0_find_9 : decode cX0_find 9 = .ok (.getfield 20, 3) := by decide +kernel
theorem dX0_find_12 : decode cX0_find 12 = .ok (.iconst 0, 1) := by decide +kernel
theorem dX0_find_13 : decode cX0_find 13 = .ok (.invokevirtual 26, 3) := by decide +kernel
theorem dX0_find_16 : decode cX0_find 16 = .ok (.iconst 0, 1) := by decide +kernel
theorem dX0_find_17 : decode cX0_find 17 = .ok (.istore_n 2, 1) := by decide +kernel
theorem dX0_find_18 : decode cX0_find 18 = .ok (.iload_n 2, 1) := by decide +kernel
theorem dX0_find_19 : decode cX0_find 19 = .ok (.aload_n 1, 1) := by decide +kernel
theorem dX0_find_20 : decode cX0_find 20 = .ok (.invokevirtual 29, 3) := by decide +kernel
theorem dX0_find_23 : decode cX0_find 23 = .ok (.if_icmp .ge 35, 3) := by decide +kernel
theorem dX0_find_26 : decode cX0_find 26 = .ok (.aload_n 1, 1) := by decide +kernel
theorem dX0_find_27 : decode cX0_find 27 = .ok (.iload_n 2, 1) := by decide +kernel
theorem dX0_find_28 : decode cX0_find 28 = .ok (.invokevirtual 35, 3) := by decide +kernel
theorem dX0_find_31 : decode cX0_find 31 = .ok (.ifCond .eq 21, 3) := by decide +kernel
theorem dX0_find_34 : decode cX0_find 34 = .ok (.aload_n 0, 1) := by decide +kernel
theorem dX0_find_35 : decode cX0_find 35 = .ok (.getfield 14, 3) := by decide +kernel
theorem dX0_find_38 : decode cX0_find 38 = .ok (.iload_n 2, 1) := by decide +kernel
theorem dX0_find_39 : decode cX0_find 39 = .ok (.invokevirtual 39, 3) := by decide +kernel
theorem dX0_find_42 : decode cX0_find 42 = .ok (.iconst (-1), 1) := by decide +kernel
theorem dX0_find_43 : decode cX0_find 43 = .ok (.if_icmp .ne 9, 3) := by decide +kernel
theorem dX0_find_46 : decode cX0_find 46 = .ok (.aload_n 0, 1) := by decide +kernel
theorem dX0_find_47 : decode cX0_find 47 = .ok (.aload_n 1, 1) := by decide +kernel
theorem dX0_find_48 : decode cX0_find 48 = .ok (.iload_n 2, 1) := by decide +kernel
theorem dX0_find_49 : decode cX0_find 49 = .ok (.invokevirtual 43, 3) := by decide +kernel
theorem dX0_find_52 : decode cX0_find 52 = .ok (.iinc 2 1, 3) := by decide +kernel
theorem dX0_find_55 : decode cX0_find 55 = .ok (.goto (-37), 3) := by decide +kernel
theorem dX0_find_58 : decode cX0_find 58 = .ok (.return_, 1) := by decide +kernel
theorem dX0_spread_0 : decode cX0_spread 0 = .ok (.aload_n 0, 1) := by decide +kernel
theorem dX0_spread_1 : decode cX0_spread 1 = .ok (.getfield 14, 3) := by decide +kernel
theorem dX0_spread_4 : decode cX0_spread 4 = .ok (.iload_n 2, 1) := by decide +kernel
theorem dX0_spread_5 : decode cX0_spread 5 = .ok (.iload_n 2, 1) := by decide +kernel
theorem dX0_spread_6 : decode cX0_spread 6 = .ok (.invokevirtual 47, 3) := by decide +kernel
theorem dX0_spread_9 : decode cX0_spread 9 = .ok (.aload_n 0, 1) := by decide +kernel
theorem dX0_spread_10 : decode cX0_spread 10 = .ok (.getfield 23, 3) := by decide +kernel
theorem dX0_spread_13 : decode cX0_spread 13 = .ok (.iconst 0, 1) := by decide +kernel
theorem dX0_spread_14 : decode cX0_spread 14 = .ok (.iload_n 2, 1) := by decide +kernel
theorem dX0_spread_15 : decode cX0_spread 15 = .ok (.invokevirtual 47, 3) := by decide +kernel
theorem dX0_spread_18 : decode cX0_spread 18 = .ok (.iconst 1, 1) := by decide +kernel
theorem dX0_spread_19 : decode cX0_spread 19 = .ok (.istore_n 3, 1) := by decide +kernel
theorem dX0_spread_20 : decode cX0_spread 20 = .ok (.iconst 0, 1) := by decide +kernel
theorem dX0_spread_21 : decode cX0_spread 21 = .ok (.istore 4, 2) := by decide +kernel
theorem dX0_spread_23 : decode cX0_spread 23 = .ok (.iload 4, 2) := by decide +kernel
theorem dX0_spread_25 : decode cX0_spread 25 = .ok (.iload_n 3, 1) := by decide +kernel
theorem dX0_spread_26 : decode cX0_spread 26 = .ok (.if_icmp .ge 132, 3) := by decide +kernel
theorem dX0_spread_29 : decode cX0_spread 29 = .ok (.iload 4, 2) := by decide +kernel
theorem dX0_spread_31 : decode cX0_spread 31 = .ok (.bipush 49, 2) := by decide +kernel
theorem dX0_spread_33 : decode cX0_spread 33 = .ok (.if_icmp .ge 125, 3) := by decide +kernel
theorem dX0_spread_36 : decode cX0_spread 36 = .ok (.aload_n 0, 1) := by decide +kernel
theorem dX0_spread_37 : decode cX0_spread 37 = .ok (.getfield 23, 3) := by decide +kernel
theorem dX0_spread_40 : decode cX0_spread 40 = .ok (.iload 4, 2) := by decide +kernel
theorem dX0_spread_42 : decode cX0_spread 42 = .ok (.invokevirtual 39, 3) := by decide +kernel
theorem dX0_spread_45 : decode cX0_spread 45 = .ok (.istore 5, 2) := by decide +kernel
theorem dX0_spread_47 : decode cX0_spread 47 = .ok (.aload_n 1, 1) := by decide +kernel
theorem dX0_spread_48 : decode cX0_spread 48 = .ok (.iload 5, 2) := by decide +kernel
theorem dX0_spread_50 : decode cX0_spread 50 = .ok (.invokevirtual 51, 3) := by decide +kernel
theorem dX0_spread_53 : decode cX0_spread 53 = .ok (.ifCond .eq 12, 3) := by decide +kernel
theorem dX0_spread_56 : decode cX0_spread 56 = .ok (.aload_n 0, 1) := by decide +kernel
theorem dX0_spread_57 : decode cX0_spread 57 = .ok (.getfield 20, 3) := by decide +kernel
theorem dX0_spread_60 : decode cX0_spread 60 = .ok (.iload_n 2, 1) := by decide +kernel
theorem dX0_spread_61 : decode cX0_spread 61 = .ok (.iconst 1, 1) := by decide +kernel
theorem dX0_spread_62 : decode cX0_spread 62 = .ok (.invokevirtual 47, 3) := by decide +kernel
theorem dX0_spread_65 : decode cX0_spread 65 = .ok (.iconst 0, 1) := by decide +kernel
theorem dX0_spread_66 : decode cX0_spread 66 = .ok (.istore 6, 2) := by decide +kernel
theorem dX0_spread_68 : decode cX0_spread 68 = .ok (.iload 6, 2) := by decide +kernel
theorem dX0_spread_70 : decode cX0_spread 70 = .ok (.iconst 4, 1) := by decide +kernel
theorem dX0_spread_71 : decode cX0_spread 71 = .ok (.if_icmp .ge 81, 3) := by decide +kernel
theorem dX0_spread_74 : decode cX0_spread 74 = .ok (.aload_n 1, 1) := by decide +kernel
theorem dX0_spread_75 : decode cX0_spread 75 = .ok (.iload 5, 2) := by decide +kernel
theorem dX0_spread_77 : decode cX0_spread 77 = .ok (.iload 6, 2) := by decide +kernel
theorem dX0_spread_79 : decode cX0_spread 79 = .ok (.invokevirtual 54, 3) := by decide +kernel
theorem dX0_spread_82 : decode cX0_spread 82 = .ok (.istore 7, 2) := by decide +kernel
theorem dX0_spread_84 : decode cX0_spread 84 = .ok (.iload 7, 2) := by decide +kernel
theorem dX0_spread_86 : decode cX0_spread 86 = .ok (.iconst (-1), 1) := by decide +kernel
theorem dX0_spread_87 : decode cX0_spread 87 = .ok (.if_icmp .eq 59, 3) := by decide +kernel
theorem dX0_spread_90 : decode cX0_spread 90 = .ok (.aload_n 1, 1) := by decide +kernel
theorem dX0_spread_91 : decode cX0_spread 91 = .ok (.iload 7, 2) := by decide +kernel
theorem dX0_spread_93 : decode cX0_spread 93 = .ok (.invokevirtual 35, 3) := by decide +kernel
theorem dX0_spread_96 : decode cX0_spread 96 = .ok (.ifCond .eq 50, 3) := by decide +kernel
theorem dX0_spread_99 : decode cX0_spread 99 = .ok (.aload_n 0, 1) := by decide +kernel
theorem dX0_spread_100 : decode cX0_spread 100 = .ok (.getfield 14, 3) := by decide +kernel
theorem dX0_spread_103 : decode cX0_spread 103 = .ok (.iload 7, 2) := by decide +kernel
theorem dX0_spread_105 : decode cX0_spread 105 = .ok (.invokevirtual 39, 3) := by decide +kernel
theorem dX0_spread_108 : decode cX0_spread 108 = .ok (.iconst (-1), 1) := by decide +kernel
theorem dX0_spread_109 : decode cX0_spread 109 = .ok (.if_icmp .ne 37, 3) := by decide +kernel
theorem dX0_spread_112 : decode cX0_spread 112 = .ok (.aload_n 1, 1) := by decide +kernel
theorem dX0_spread_113 : decode cX0_spread 113 = .ok (.iload 5, 2) := by decide +kernel
theorem dX0_spread_115 : decode cX0_spread 115 = .ok (.iload 6, 2) := by decide +kernel
theorem dX0_spread_117 : decode cX0_spread 117 = .ok (.invokevirtual 58, 3) := by decide +kernel
theorem dX0_spread_120 : decode cX0_spread 120 = .ok (.ifCond .ne 26, 3) := by decide +kernel
theorem dX0_spread_123 : decode cX0_spread 123 = .ok (.aload_n 0, 1) := by decide +kernel
theorem dX0_spread_124 : decode cX0_spread 124 = .ok (.getfield 14, 3) := by decide +kernel
theorem dX0_spread_127 : decode cX0_spread 127 = .ok (.iload 7, 2) := by decide +kernel
theorem dX0_spread_129 : decode cX0_spread 129 = .ok (.iload_n 2, 1) := by decide +kernel
theorem dX0_spread_130 : decode cX0_spread 130 = .ok (.invokevirtual 47, 3) := by decide +kernel
theorem dX0_spread_133 : decode cX0_spread 133 = .ok (.aload_n 0, 1) := by decide +kernel
theorem dX0_spread_134 : decode cX0_spread 134 = .ok (.getfield 23, 3) := by decide +kernel
theorem dX0_spread_137 : decode cX0_spread 137 = .ok (.iload_n 3, 1) := by decide +kernel
theorem dX0_spread_138 : decode cX0_spread 138 = .ok (.iload 7, 2) := by decide +kernel
theorem dX0_spread_140 : decode cX0_spread 140 = .ok (.invokevirtual 47, 3) := by decide +kernel
theorem dX0_spread_143 : decode cX0_spread 143 = .ok (.iinc 3 1, 3) := by decide +kernel
theorem dX0_spread_146 : decode cX0_spread 146 = .ok (.iinc 6 1, 3) := by decide +kernel
theorem dX0_spread_149 : decode cX0_spread 149 = .ok (.goto (-81), 3) := by decide +kernel
theorem dX0_spread_152 : decode cX0_spread 152 = .ok (.iinc 4 1, 3) := by decide +kernel
theorem dX0_spread_155 : decode cX0_spread 155 = .ok (.goto (-132), 3) := by decide +kernel
theorem dX0_spread_158 : decode cX0_spread 158 = .ok (.return_, 1) := by decide +kernel
theorem dX0_numberAt_0 : decode cX0_numberAt 0 = .ok (.aload_n 0, 1) := by decide +kernel
theorem dX0_numberAt_1 : decode cX0_numberAt 1 = .ok (.getfield 14, 3) := by decide +kernel
theorem dX0_numberAt_4 : decode cX0_numberAt 4 = .ok (.iload_n 1, 1) := by decide +kernel
theorem dX0_numberAt_5 : decode cX0_numberAt 5 = .ok (.invokevirtual 39, 3) := by decide +kernel
theorem dX0_numberAt_8 : decode cX0_numberAt 8 = .ok (.ireturn, 1) := by decide +kernel
theorem dX0_isBlock_0 : decode cX0_isBlock 0 = .ok (.iload_n 1, 1) := by decide +kernel
theorem dX0_isBlock_1 : decode cX0_isBlock 1 = .ok (.ifCond .lt 25, 3) := by decide +kernel
theorem dX0_isBlock_4 : decode cX0_isBlock 4 = .ok (.iload_n 1, 1) := by decide +kernel
theorem dX0_isBlock_5 : decode cX0_isBlock 5 = .ok (.bipush 49, 2) := by decide +kernel
theorem dX0_isBlock_7 : decode cX0_isBlock 7 = .ok (.if_icmp .ge 19, 3) := by decide +kernel
theorem dX0_isBlock_10 : decode cX0_isBlock 10 = .ok (.aload_n 0, 1) := by decide +kernel
theorem dX0_isBlock_11 : decode cX0_isBlock 11 = .ok (.getfield 14, 3) := by decide +kernel
theorem dX0_isBlock_14 : decode cX0_isBlock 14 = .ok (.iload_n 1, 1) := by decide +kernel
theorem dX0_isBlock_15 : decode cX0_isBlock 15 = .ok (.invokevirtual 39, 3) := by decide +kernel
theorem dX0_isBlock_18 : decode cX0_isBlock 18 = .ok (.iload_n 1, 1) := by decide +kernel
theorem dX0_isBlock_19 : decode cX0_isBlock 19 = .ok (.if_icmp .ne 7, 3) := by decide +kernel
theorem dX0_isBlock_22 : decode cX0_isBlock 22 = .ok (.iconst 1, 1) := by decide +kernel
theorem dX0_isBlock_23 : decode cX0_isBlock 23 = .ok (.goto 4, 3) := by decide +kernel
theorem dX0_isBlock_26 : decode cX0_isBlock 26 = .ok (.iconst 0, 1) := by decide +kernel
theorem dX0_isBlock_27 : decode cX0_isBlock 27 = .ok (.ireturn, 1) := by decide +kernel
theorem dX0_isLoose_0 : decode cX0_isLoose 0 = .ok (.aload_n 0, 1) := by decide +kernel
theorem dX0_isLoose_1 : decode cX0_isLoose 1 = .ok (.iload_n 1, 1) := by decide +kernel
theorem dX0_isLoose_2 : decode cX0_isLoose 2 = .ok (.invokevirtual 61, 3) := by decide +kernel
theorem dX0_isLoose_5 : decode cX0_isLoose 5 = .ok (.ifCond .eq 18, 3) := by decide +kernel
theorem dX0_isLoose_8 : decode cX0_isLoose 8 = .ok (.aload_n 0, 1) := by decide +kernel
theorem dX0_isLoose_9 : decode cX0_isLoose 9 = .ok (.getfield 20, 3) := by decide +kernel
theorem dX0_isLoose_12 : decode cX0_isLoose 12 = .ok (.iload_n 1, 1) := by decide +kernel
theorem dX0_isLoose_13 : decode cX0_isLoose 13 = .ok (.invokevirtual 39, 3) := by decide +kernel
theorem dX0_isLoose_16 : decode cX0_isLoose 16 = .ok (.ifCond .ne 7, 3) := by decide +kernel
theorem dX0_isLoose_19 : decode cX0_isLoose 19 = .ok (.iconst 1, 1) := by decide +kernel
theorem dX0_isLoose_20 : decode cX0_isLoose 20 = .ok (.goto 4, 3) := by decide +kernel
theorem dX0_isLoose_23 : decode cX0_isLoose 23 = .ok (.iconst 0, 1) := by decide +kernel
theorem dX0_isLoose_24 : decode cX0_isLoose 24 = .ok (.ireturn, 1) := by decide +kernel
theorem dX0_sizeOf_0 : decode cX0_sizeOf 0 = .ok (.iconst 0, 1) := by decide +kernel
theorem dX0_sizeOf_1 : decode cX0_sizeOf 1 = .ok (.istore_n 2, 1) := by decide +kernel
theorem dX0_sizeOf_2 : decode cX0_sizeOf 2 = .ok (.iconst 0, 1) := by decide +kernel
theorem dX0_sizeOf_3 : decode cX0_sizeOf 3 = .ok (.istore_n 3, 1) := by decide +kernel
theorem dX0_sizeOf_4 : decode cX0_sizeOf 4 = .ok (.iload_n 3, 1) := by decide +kernel
theorem dX0_sizeOf_5 : decode cX0_sizeOf 5 = .ok (.bipush 49, 2) := by decide +kernel
theorem dX0_sizeOf_7 : decode cX0_sizeOf 7 = .ok (.if_icmp .ge 24, 3) := by decide +kernel
theorem dX0_sizeOf_10 : decode cX0_sizeOf 10 = .ok (.aload_n 0, 1) := by decide +kernel
theorem dX0_sizeOf_11 : decode cX0_sizeOf 11 = .ok (.getfield 14, 3) := by decide +kernel
theorem dX0_sizeOf_14 : decode cX0_sizeOf 14 = .ok (.iload_n 3, 1) := by decide +kernel
theorem dX0_sizeOf_15 : decode cX0_sizeOf 15 = .ok (.invokevirtual 39, 3) := by decide +kernel
theorem dX0_sizeOf_18 : decode cX0_sizeOf 18 = .ok (.iload_n 1, 1) := by decide +kernel
theorem dX0_sizeOf_19 : decode cX0_sizeOf 19 = .ok (.if_icmp .ne 6, 3) := by decide +kernel
theorem dX0_sizeOf_22 : decode cX0_sizeOf 22 = .ok (.iinc 2 1, 3) := by decide +kernel
theorem dX0_sizeOf_25 : decode cX0_sizeOf 25 = .ok (.iinc 3 1, 3) := by decide +kernel
theorem dX0_sizeOf_28 : decode cX0_sizeOf 28 = .ok (.goto (-24), 3) := by decide +kernel
theorem dX0_sizeOf_31 : decode cX0_sizeOf 31 = .ok (.iload_n 2, 1) := by decide +kernel
theorem dX0_sizeOf_32 : decode cX0_sizeOf 32 = .ok (.ireturn, 1) := by decide +kernel
theorem dX0_countAll_0 : decode cX0_countAll 0 = .ok (.iconst 0, 1) := by decide +kernel
theorem dX0_countAll_1 : decode cX0_countAll 1 = .ok (.istore_n 1, 1) := by decide +kernel
theorem dX0_countAll_2 : decode cX0_countAll 2 = .ok (.iconst 0, 1) := by decide +kernel
theorem dX0_countAll_3 : decode cX0_countAll 3 = .ok (.istore_n 2, 1) := by decide +kernel
theorem dX0_countAll_4 : decode cX0_countAll 4 = .ok (.iload_n 2, 1) := by decide +kernel
theorem dX0_countAll_5 : decode cX0_countAll 5 = .ok (.bipush 49, 2) := by decide +kernel
theorem dX0_countAll_7 : decode cX0_countAll 7 = .ok (.if_icmp .ge 20, 3) := by decide +kernel
theorem dX0_countAll_10 : decode cX0_countAll 10 = .ok (.aload_n 0, 1) := by decide +kernel
theorem dX0_countAll_11 : decode cX0_countAll 11 = .ok (.iload_n 2, 1) := by decide +kernel
theorem dX0_countAll_12 : decode cX0_countAll 12 = .ok (.invokevirtual 61, 3) := by decide +kernel
theorem dX0_countAll_15 : decode cX0_countAll 15 = .ok (.ifCond .eq 6, 3) := by decide +kernel
theorem dX0_countAll_18 : decode cX0_countAll 18 = .ok (.iinc 1 1, 3) := by decide +kernel
theorem dX0_countAll_21 : decode cX0_countAll 21 = .ok (.iinc 2 1, 3) := by decide +kernel
theorem dX0_countAll_24 : decode cX0_countAll 24 = .ok (.goto (-20), 3) := by decide +kernel
theorem dX0_countAll_27 : decode cX0_countAll 27 = .ok (.iload_n 1, 1) := by decide +kernel
theorem dX0_countAll_28 : decode cX0_countAll 28 = .ok (.ireturn, 1) := by decide +kernel
theorem dX0_countLoose_0 : decode cX0_countLoose 0 = .ok (.iconst 0, 1) := by decide +kernel
theorem dX0_countLoose_1 : decode cX0_countLoose 1 = .ok (.istore_n 1, 1) := by decide +kernel
theorem dX0_countLoose_2 : decode cX0_countLoose 2 = .ok (.iconst 0, 1) := by decide +kernel
theorem dX0_countLoose_3 : decode cX0_countLoose 3 = .ok (.istore_n 2, 1) := by decide +kernel
theorem dX0_countLoose_4 : decode cX0_countLoose 4 = .ok (.iload_n 2, 1) := by decide +kernel
theorem dX0_countLoose_5 : decode cX0_countLoose 5 = .ok (.bipush 49, 2) := by decide +kernel
theorem dX0_countLoose_7 : decode cX0_countLoose 7 = .ok (.if_icmp .ge 20, 3) := by decide +kernel
theorem dX0_countLoose_10 : decode cX0_countLoose 10 = .ok (.aload_n 0, 1) := by decide +kernel
theorem dX0_countLoose_11 : decode cX0_countLoose 11 = .ok (.iload_n 2, 1) := by decide +kernel
theorem dX0_countLoose_12 : decode cX0_countLoose 12 = .ok (.invokevirtual 64, 3) := by decide +kernel
theorem dX0_countLoose_15 : decode cX0_countLoose 15 = .ok (.ifCond .eq 6, 3) := by decide +kernel
theorem dX0_countLoose_18 : decode cX0_countLoose 18 = .ok (.iinc 1 1, 3) := by decide +kernel
theorem dX0_countLoose_21 : decode cX0_countLoose 21 = .ok (.iinc 2 1, 3) := by decide +kernel
theorem dX0_countLoose_24 : decode cX0_countLoose 24 = .ok (.goto (-20), 3) := by decide +kernel
theorem dX0_countLoose_27 : decode cX0_countLoose 27 = .ok (.iload_n 1, 1) := by decide +kernel
theorem dX0_countLoose_28 : decode cX0_countLoose 28 = .ok (.ireturn, 1) := by decide +kernel
theorem dX0_forget_0 : decode cX0_forget 0 = .ok (.iconst 0, 1) := by decide +kernel
theorem dX0_forget_1 : decode cX0_forget 1 = .ok (.istore_n 2, 1) := by decide +kernel
theorem dX0_forget_2 : decode cX0_forget 2 = .ok (.iload_n 2, 1) := by decide +kernel
theorem dX0_forget_3 : decode cX0_forget 3 = .ok (.bipush 49, 2) := by decide +kernel
theorem dX0_forget_5 : decode cX0_forget 5 = .ok (.if_icmp .ge 30, 3) := by decide +kernel
theorem dX0_forget_8 : decode cX0_forget 8 = .ok (.aload_n 0, 1) := by decide +kernel
theorem dX0_forget_9 : decode cX0_forget 9 = .ok (.getfield 14, 3) := by decide +kernel
theorem dX0_forget_12 : decode cX0_forget 12 = .ok (.iload_n 2, 1) := by decide +kernel
theorem dX0_forget_13 : decode cX0_forget 13 = .ok (.invokevirtual 39, 3) := by decide +kernel
theorem dX0_forget_16 : decode cX0_forget 16 = .ok (.iload_n 1, 1) := by decide +kernel
theorem dX0_forget_17 : decode cX0_forget 17 = .ok (.if_icmp .ne 12, 3) := by decide +kernel
theorem dX0_forget_20 : decode cX0_forget 20 = .ok (.aload_n 0, 1) := by decide +kernel
theorem dX0_forget_21 : decode cX0_forget 21 = .ok (.getfield 14, 3) := by decide +kernel
theorem dX0_forget_24 : decode cX0_forget 24 = .ok (.iload_n 2, 1) := by decide +kernel
theorem dX0_forget_25 : decode cX0_forget 25 = .ok (.iconst (-1), 1) := by decide +kernel
theorem dX0_forget_26 : decode cX0_forget 26 = .ok (.invokevirtual 47, 3) := by decide +kernel
theorem dX0_forget_29 : decode cX0_forget 29 = .ok (.iinc 2 1, 3) := by decide +kernel
theorem dX0_forget_32 : decode cX0_forget 32 = .ok (.goto (-30), 3) := by decide +kernel
theorem dX0_forget_35 : decode cX0_forget 35 = .ok (.return_, 1) := by decide +kernel
theorem dX1_init_0 : decode cX1_init 0 = .ok (.aload_n 0, 1) := by decide +kernel
theorem dX1_init_1 : decode cX1_init 1 = .ok (.invokespecial 5, 3) := by decide +kernel
theorem dX1_init_4 : decode cX1_init 4 = .ok (.aload_n 0, 1) := by decide +kernel
theorem dX1_init_5 : decode cX1_init 5 = .ok (.iconst 2, 1) := by decide +kernel
theorem dX1_init_6 : decode cX1_init 6 = .ok (.putfield 11, 3) := by decide +kernel
theorem dX1_init_9 : decode cX1_init 9 = .ok (.aload_n 0, 1) := by decide +kernel
theorem dX1_init_10 : decode cX1_init 10 = .ok (.iconst 2, 1) := by decide +kernel
theorem dX1_init_11 : decode cX1_init 11 = .ok (.putfield 15, 3) := by decide +kernel
theorem dX1_init_14 : decode cX1_init 14 = .ok (.aload_n 0, 1) := by decide +kernel
theorem dX1_init_15 : decode cX1_init 15 = .ok (.iconst 0, 1) := by decide +kernel
theorem dX1_init_16 : decode cX1_init 16 = .ok (.putfield 18, 3) := by decide +kernel
theorem dX1_init_19 : decode cX1_init 19 = .ok (.aload_n 0, 1) := by decide +kernel
theorem dX1_init_20 : decode cX1_init 20 = .ok (.iconst 0, 1) := by decide +kernel
theorem dX1_init_21 : decode cX1_init 21 = .ok (.putfield 21, 3) := by decide +kernel
theorem dX1_init_24 : decode cX1_init 24 = .ok (.aload_n 0, 1) := by decide +kernel
theorem dX1_init_25 : decode cX1_init 25 = .ok (.iconst 0, 1) := by decide +kernel
theorem dX1_init_26 : decode cX1_init 26 = .ok (.putfield 24, 3) := by decide +kernel
theorem dX1_init_29 : decode cX1_init 29 = .ok (.aload_n 0, 1) := by decide +kernel
theorem dX1_init_30 : decode cX1_init 30 = .ok (.iconst 0, 1) := by decide +kernel
theorem dX1_init_31 : decode cX1_init 31 = .ok (.putfield 27, 3) := by decide +kernel
theorem dX1_init_34 : decode cX1_init 34 = .ok (.aload_n 0, 1) := by decide +kernel
theorem dX1_init_35 : decode cX1_init 35 = .ok (.iconst 0, 1) := by decide +kernel
theorem dX1_init_36 : decode cX1_init 36 = .ok (.putfield 30, 3) := by decide +kernel
theorem dX1_init_39 : decode cX1_init 39 = .ok (.aload_n 0, 1) := by decide +kernel
theorem dX1_init_40 : decode cX1_init 40 = .ok (.iconst 0, 1) := by decide +kernel
theorem dX1_init_41 : decode cX1_init 41 = .ok (.putfield 33, 3) := by decide +kernel
theorem dX1_init_44 : decode cX1_init 44 = .ok (.aload_n 0, 1) := by decide +kernel
theorem dX1_init_45 : decode cX1_init 45 = .ok (.new 36, 3) := by decide +kernel
theorem dX1_init_48 : decode cX1_init 48 = .ok (.dup, 1) := by decide +kernel
theorem dX1_init_49 : decode cX1_init 49 = .ok (.bipush 49, 2) := by decide +kernel
theorem dX1_init_51 : decode cX1_init 51 = .ok (.invokespecial 38, 3) := by decide +kernel
theorem dX1_init_54 : decode cX1_init 54 = .ok (.putfield 41, 3) := by decide +kernel
theorem dX1_init_57 : decode cX1_init 57 = .ok (.aload_n 0, 1) := by decide +kernel
theorem dX1_init_58 : decode cX1_init 58 = .ok (.new 36, 3) := by decide +kernel
theorem dX1_init_61 : decode cX1_init 61 = .ok (.dup, 1) := by decide +kernel
theorem dX1_init_62 : decode cX1_init 62 = .ok (.bipush 106, 2) := by decide +kernel
theorem dX1_init_64 : decode cX1_init 64 = .ok (.invokespecial 38, 3) := by decide +kernel
theorem dX1_init_67 : decode cX1_init 67 = .ok (.putfield 45, 3) := by decide +kernel
theorem dX1_init_70 : decode cX1_init 70 = .ok (.aload_n 0, 1) := by decide +kernel
theorem dX1_init_71 : decode cX1_init 71 = .ok (.new 36, 3) := by decide +kernel
theorem dX1_init_74 : decode cX1_init 74 = .ok (.dup, 1) := by decide +kernel
theorem dX1_init_75 : decode cX1_init 75 = .ok (.bipush 120, 2) := by decide +kernel
theorem dX1_init_77 : decode cX1_init 77 = .ok (.invokespecial 38, 3) := by decide +kernel
theorem dX1_init_80 : decode cX1_init 80 = .ok (.putfield 48, 3) := by decide +kernel
theorem dX1_init_83 : decode cX1_init 83 = .ok (.aload_n 0, 1) := by decide +kernel
theorem dX1_init_84 : decode cX1_init 84 = .ok (.new 36, 3) := by decide +kernel
theorem dX1_init_87 : decode cX1_init 87 = .ok (.dup, 1) := by decide +kernel
theorem dX1_init_88 : decode cX1_init 88 = .ok (.bipush 49, 2) := by decide +kernel
theorem dX1_init_90 : decode cX1_init 90 = .ok (.invokespecial 38, 3) := by decide +kernel
theorem dX1_init_93 : decode cX1_init 93 = .ok (.putfield 51, 3) := by decide +kernel
theorem dX1_init_96 : decode cX1_init 96 = .ok (.return_, 1) := by decide +kernel
theorem dX1_copyFrom_0 : decode cX1_copyFrom 0 = .ok (.aload_n 0, 1) := by decide +kernel
theorem dX1_copyFrom_1 : decode cX1_copyFrom 1 = .ok (.aload_n 1, 1) := by decide +kernel
theorem dX1_copyFrom_2 : decode cX1_copyFrom 2 = .ok (.getfield 11, 3) := by decide +kernel
theorem dX1_copyFrom_5 : decode cX1_copyFrom 5 = .ok (.putfield 11, 3) := by decide +kernel
theorem dX1_copyFrom_8 : decode cX1_copyFrom 8 = .ok (.aload_n 0, 1) := by decide +kernel
theorem dX1_copyFrom_9 : decode cX1_copyFrom 9 = .ok (.aload_n 1, 1) := by decide +kernel
theorem dX1_copyFrom_10 : decode cX1_copyFrom 10 = .ok (.getfield 15, 3) := by decide +kernel
theorem dX1_copyFrom_13 : decode cX1_copyFrom 13 = .ok (.putfield 15, 3) := by decide +kernel
theorem dX1_copyFrom_16 : decode cX1_copyFrom 16 = .ok (.aload_n 0, 1) := by decide +kernel
theorem dX1_copyFrom_17 : decode cX1_copyFrom 17 = .ok (.aload_n 1, 1) := by decide +kernel
theorem dX1_copyFrom_18 : decode cX1_copyFrom 18 = .ok (.getfield 18, 3) := by decide +kernel
theorem dX1_copyFrom_21 : decode cX1_copyFrom 21 = .ok (.putfield 18, 3) := by decide +kernel
theorem dX1_copyFrom_24 : decode cX1_copyFrom 24 = .ok (.aload_n 0, 1) := by decide +kernel
theorem dX1_copyFrom_25 : decode cX1_copyFrom 25 = .ok (.aload_n 1, 1) := by decide +kernel
theorem dX1_copyFrom_26 : decode cX1_copyFrom 26 = .ok (.getfield 21, 3) := by decide +kernel
theorem dX1_copyFrom_29 : decode cX1_copyFrom 29 = .ok (.putfield 21, 3) := by decide +kernel
theorem dX1_copyFrom_32 : decode cX1_copyFrom 32 = .ok (.aload_n 0, 1) := by decide +kernel
theorem dX1_copyFrom_33 : decode cX1_copyFrom 33 = .ok (.aload_n 1, 1) := by decide +kernel
theorem dX1_copyFrom_34 : decode cX1_copyFrom 34 = .ok (.getfield 24, 3) := by decide +kernel
theorem dX1_copyFrom_37 : decode cX1_copyFrom 37 = .ok (.putfield 24, 3) := by decide +kernel
theorem dX1_copyFrom_40 : decode cX1_copyFrom 40 = .ok (.aload_n 0, 1) := by decide +kernel
theorem dX1_copyFrom_41 : decode cX1_copyFrom 41 = .ok (.aload_n 1, 1) := by decide +kernel
theorem dX1_copyFrom_42 : decode cX1_copyFrom 42 = .ok (.getfield 27, 3) := by decide +kernel
theorem dX1_copyFrom_45 : decode cX1_copyFrom 45 = .ok (.putfield 27, 3) := by decide +kernel
theorem dX1_copyFrom_48 : decode cX1_copyFrom 48 = .ok (.aload_n 0, 1) := by decide +kernel
theorem dX1_copyFrom_49 : decode cX1_copyFrom 49 = .ok (.aload_n 1, 1) := by decide +kernel
theorem dX1_copyFrom_50 : decode cX1_copyFrom 50 = .ok (.getfield 30, 3) := by decide +kernel
theorem dX1_copyFrom_53 : decode cX1_copyFrom 53 = .ok (.putfield 30, 3) := by decide +kernel
theorem dX1_copyFrom_56 : decode cX1_copyFrom 56 = .ok (.aload_n 0, 1) := by decide +kernel
theorem dX1_copyFrom_57 : decode cX1_copyFrom 57 = .ok (.aload_n 1, 1) := by decide +kernel
theorem dX1_copyFrom_58 : decode cX1_copyFrom 58 = .ok (.getfield 33, 3) := by decide +kernel
theorem dX1_copyFrom_61 : decode cX1_copyFrom 61 = .ok (.putfield 33, 3) := by decide +kernel
theorem dX1_copyFrom_64 : decode cX1_copyFrom 64 = .ok (.aload_n 0, 1) := by decide +kernel
theorem dX1_copyFrom_65 : decode cX1_copyFrom 65 = .ok (.getfield 41, 3) := by decide +kernel
theorem dX1_copyFrom_68 : decode cX1_copyFrom 68 = .ok (.aload_n 1, 1) := by decide +kernel
theorem dX1_copyFrom_69 : decode cX1_copyFrom 69 = .ok (.getfield 41, 3) := by decide +kernel
theorem dX1_copyFrom_72 : decode cX1_copyFrom 72 = .ok (.invokevirtual 54, 3) := by decide +kernel
theorem dX1_copyFrom_75 : decode cX1_copyFrom 75 = .ok (.aload_n 0, 1) := by decide +kernel
theorem dX1_copyFrom_76 : decode cX1_copyFrom 76 = .ok (.getfield 45, 3) := by decide +kernel
theorem dX1_copyFrom_79 : decode cX1_copyFrom 79 = .ok (.aload_n 1, 1) := by decide +kernel
theorem dX1_copyFrom_80 : decode cX1_copyFrom 80 = .ok (.getfield 45, 3) := by decide +kernel
theorem dX1_copyFrom_83 : decode cX1_copyFrom 83 = .ok (.invokevirtual 54, 3) := by decide +kernel
theorem dX1_copyFrom_86 : decode cX1_copyFrom 86 = .ok (.aload_n 0, 1) := by decide +kernel
theorem dX1_copyFrom_87 : decode cX1_copyFrom 87 = .ok (.getfield 48, 3) := by decide +kernel
theorem dX1_copyFrom_90 : decode cX1_copyFrom 90 = .ok (.aload_n 1, 1) := by decide +kernel
theorem dX1_copyFrom_91 : decode cX1_copyFrom 91 = .ok (.getfield 48, 3) := by decide +kernel
theorem dX1_copyFrom_94 : decode cX1_copyFrom 94 = .ok (.invokevirtual 54, 3) := by decide +kernel
theorem dX1_copyFrom_97 : decode cX1_copyFrom 97 = .ok (.return_, 1) := by decide +kernel
theorem dX1_beginAnew_0 : decode cX1_beginAnew 0 = .ok (.aload_n 0, 1) := by decide +kernel
theorem dX1_beginAnew_1 : decode cX1_beginAnew 1 = .ok (.iload_n 1, 1) := by decide +kernel
theorem dX1_beginAnew_2 : decode cX1_beginAnew 2 = .ok (.putfield 11, 3) := by decide +kernel
theorem dX1_beginAnew_5 : decode cX1_beginAnew 5 = .ok (.aload_n 0, 1) := by decide +kernel
theorem dX1_beginAnew_6 : decode cX1_beginAnew 6 = .ok (.iload_n 2, 1) := by decide +kernel
theorem dX1_beginAnew_7 : decode cX1_beginAnew 7 = .ok (.putfield 15, 3) := by decide +kernel
theorem dX1_beginAnew_10 : decode cX1_beginAnew 10 = .ok (.aload_n 0, 1) := by decide +kernel
theorem dX1_beginAnew_11 : decode cX1_beginAnew 11 = .ok (.iconst 0, 1) := by decide +kernel
theorem dX1_beginAnew_12 : decode cX1_beginAnew 12 = .ok (.putfield 21, 3) := by decide +kernel
theorem dX1_beginAnew_15 : decode cX1_beginAnew 15 = .ok (.aload_n 0, 1) := by decide +kernel
theorem dX1_beginAnew_16 : decode cX1_beginAnew 16 = .ok (.iconst 0, 1) := by decide +kernel
theorem dX1_beginAnew_17 : decode cX1_beginAnew 17 = .ok (.putfield 24, 3) := by decide +kernel
theorem dX1_beginAnew_20 : decode cX1_beginAnew 20 = .ok (.aload_n 0, 1) := by decide +kernel
theorem dX1_beginAnew_21 : decode cX1_beginAnew 21 = .ok (.iconst 0, 1) := by decide +kernel
theorem dX1_beginAnew_22 : decode cX1_beginAnew 22 = .ok (.putfield 27, 3) := by decide +kernel
theorem dX1_beginAnew_25 : decode cX1_beginAnew 25 = .ok (.aload_n 0, 1) := by decide +kernel
theorem dX1_beginAnew_26 : decode cX1_beginAnew 26 = .ok (.iconst 0, 1) := by decide +kernel
theorem dX1_beginAnew_27 : decode cX1_beginAnew 27 = .ok (.putfield 30, 3) := by decide +kernel
theorem dX1_beginAnew_30 : decode cX1_beginAnew 30 = .ok (.aload_n 0, 1) := by decide +kernel
theorem dX1_beginAnew_31 : decode cX1_beginAnew 31 = .ok (.iconst 0, 1) := by decide +kernel
theorem dX1_beginAnew_32 : decode cX1_beginAnew 32 = .ok (.putfield 33, 3) := by decide +kernel
theorem dX1_beginAnew_35 : decode cX1_beginAnew 35 = .ok (.aload_n 0, 1) := by decide +kernel
theorem dX1_beginAnew_36 : decode cX1_beginAnew 36 = .ok (.getfield 41, 3) := by decide +kernel
theorem dX1_beginAnew_39 : decode cX1_beginAnew 39 = .ok (.iconst 0, 1) := by decide +kernel
theorem dX1_beginAnew_40 : decode cX1_beginAnew 40 = .ok (.invokevirtual 58, 3) := by decide +kernel
theorem dX1_beginAnew_43 : decode cX1_beginAnew 43 = .ok (.aload_n 0, 1) := by decide +kernel
theorem dX1_beginAnew_44 : decode cX1_beginAnew 44 = .ok (.getfield 45, 3) := by decide +kernel
theorem dX1_beginAnew_47 : decode cX1_beginAnew 47 = .ok (.iconst 0, 1) := by decide +kernel
theorem dX1_beginAnew_48 : decode cX1_beginAnew 48 = .ok (.invokevirtual 58, 3) := by decide +kernel
theorem dX1_beginAnew_51 : decode cX1_beginAnew 51 = .ok (.aload_n 0, 1) := by decide +kernel
theorem dX1_beginAnew_52 : decode cX1_beginAnew 52 = .ok (.getfield 48, 3) := by decide +kernel
theorem dX1_beginAnew_55 : decode cX1_beginAnew 55 = .ok (.iconst 0, 1) := by decide +kernel
theorem dX1_beginAnew_56 : decode cX1_beginAnew 56 = .ok (.invokevirtual 58, 3) := by decide +kernel
theorem dX1_beginAnew_59 : decode cX1_beginAnew 59 = .ok (.return_, 1) := by decide +kernel
theorem dX1_add_0 : decode cX1_add 0 = .ok (.aload_n 0, 1) := by decide +kernel
theorem dX1_add_1 : decode cX1_add 1 = .ok (.getfield 41, 3) := by decide +kernel
theorem dX1_add_4 : decode cX1_add 4 = .ok (.iload_n 1, 1) := by decide +kernel
theorem dX1_add_5 : decode cX1_add 5 = .ok (.aload_n 0, 1) := by decide +kernel
theorem dX1_add_6 : decode cX1_add 6 = .ok (.getfield 41, 3) := by decide +kernel
theorem dX1_add_9 : decode cX1_add 9 = .ok (.iload_n 1, 1) := by decide +kernel
theorem dX1_add_10 : decode cX1_add 10 = .ok (.invokevirtual 61, 3) := by decide +kernel
theorem dX1_add_13 : decode cX1_add 13 = .ok (.iload_n 2, 1) := by decide +kernel
theorem dX1_add_14 : decode cX1_add 14 = .ok (.iadd, 1) := by decide +kernel
theorem dX1_add_15 : decode cX1_add 15 = .ok (.invokevirtual 65, 3) := by decide +kernel
theorem dX1_add_18 : decode cX1_add 18 = .ok (.aload_n 0, 1) := by decide +kernel
theorem dX1_add_19 : decode cX1_add 19 = .ok (.dup, 1) := by decide +kernel
theorem dX1_add_20 : decode cX1_add 20 = .ok (.getfield 24, 3) := by decide +kernel
theorem dX1_add_23 : decode cX1_add 23 = .ok (.iload_n 2, 1) := by decide +kernel
theorem dX1_add_24 : decode cX1_add 24 = .ok (.iadd, 1) := by decide +kernel
theorem dX1_add_25 : decode cX1_add 25 = .ok (.putfield 24, 3) := by decide +kernel
theorem dX1_add_28 : decode cX1_add 28 = .ok (.return_, 1) := by decide +kernel
theorem dX1_addEverywhere_0 : decode cX1_addEverywhere 0 = .ok (.iconst 0, 1) := by decide +kernel
theorem dX1_addEverywhere_1 : decode cX1_addEverywhere 1 = .ok (.istore_n 2, 1) := by decide +kernel
theorem dX1_addEverywhere_2 : decode cX1_addEverywhere 2 = .ok (.iload_n 2, 1) := by decide +kernel
theorem dX1_addEverywhere_3 : decode cX1_addEverywhere 3 = .ok (.aload_n 0, 1) := by decide +kernel
theorem dX1_addEverywhere_4 : decode cX1_addEverywhere 4 = .ok (.invokevirtual 69, 3) := by decide +kernel
theorem dX1_addEverywhere_7 : decode cX1_addEverywhere 7 = .ok (.if_icmp .ge 15, 3) := by decide +kernel
theorem dX1_addEverywhere_10 : decode cX1_addEverywhere 10 = .ok (.aload_n 0, 1) := by decide +kernel
theorem dX1_addEverywhere_11 : decode cX1_addEverywhere 11 = .ok (.iload_n 2, 1) := by decide +kernel
theorem dX1_addEverywhere_12 : decode cX1_addEverywhere 12 = .ok (.iload_n 1, 1) := by decide +kernel
theorem dX1_addEverywhere_13 : decode cX1_addEverywhere 13 = .ok (.invokevirtual 73, 3) := by decide +kernel
theorem dX1_addEverywhere_16 : decode cX1_addEverywhere 16 = .ok (.iinc 2 1, 3) := by decide +kernel
theorem dX1_addEverywhere_19 : decode cX1_addEverywhere 19 = .ok (.goto (-17), 3) := by decide +kernel
theorem dX1_addEverywhere_22 : decode cX1_addEverywhere 22 = .ok (.return_, 1) := by decide +kernel
theorem dX1_cellCount_0 : decode cX1_cellCount 0 = .ok (.aload_n 0, 1) := by decide +kernel
theorem dX1_cellCount_1 : decode cX1_cellCount 1 = .ok (.getfield 11, 3) := by decide +kernel
theorem dX1_cellCount_4 : decode cX1_cellCount 4 = .ok (.aload_n 0, 1) := by decide +kernel
theorem dX1_cellCount_5 : decode cX1_cellCount 5 = .ok (.getfield 15, 3) := by decide +kernel
theorem dX1_cellCount_8 : decode cX1_cellCount 8 = .ok (.imul, 1) := by decide +kernel
theorem dX1_cellCount_9 : decode cX1_cellCount 9 = .ok (.ireturn, 1) := by decide +kernel
theorem dX1_rowOf_0 : decode cX1_rowOf 0 = .ok (.aload_n 0, 1) := by decide +kernel
theorem dX1_rowOf_1 : decode cX1_rowOf 1 = .ok (.getfield 11, 3) := by decide +kernel
theorem dX1_rowOf_4 : decode cX1_rowOf 4 = .ok (.ifCond .le 12, 3) := by decide +kernel
theorem dX1_rowOf_7 : decode cX1_rowOf 7 = .ok (.iload_n 1, 1) := by decide +kernel
theorem dX1_rowOf_8 : decode cX1_rowOf 8 = .ok (.aload_n 0, 1) := by decide +kernel
theorem dX1_rowOf_9 : decode cX1_rowOf 9 = .ok (.getfield 11, 3) := by decide +kernel
theorem dX1_rowOf_12 : decode cX1_rowOf 12 = .ok (.idiv, 1) := by decide +kernel
theorem dX1_rowOf_13 : decode cX1_rowOf 13 = .ok (.goto 4, 3) := by decide +kernel
theorem dX1_rowOf_16 : decode cX1_rowOf 16 = .ok (.iconst 0, 1) := by decide +kernel
theorem dX1_rowOf_17 : decode cX1_rowOf 17 = .ok (.ireturn, 1) := by decide +kernel
theorem dX1_columnOf_0 : decode cX1_columnOf 0 = .ok (.aload_n 0, 1) := by decide +kernel
theorem dX1_columnOf_1 : decode cX1_columnOf 1 = .ok (.getfield 11, 3) := by decide +kernel
theorem dX1_columnOf_4 : decode cX1_columnOf 4 = .ok (.ifCond .le 12, 3) := by decide +kernel
theorem dX1_columnOf_7 : decode cX1_columnOf 7 = .ok (.iload_n 1, 1) := by decide +kernel
theorem dX1_columnOf_8 : decode cX1_columnOf 8 = .ok (.aload_n 0, 1) := by decide +kernel
theorem dX1_columnOf_9 : decode cX1_columnOf 9 = .ok (.getfield 11, 3) := by decide +kernel
theorem dX1_columnOf_12 : decode cX1_columnOf 12 = .ok (.irem, 1) := by decide +kernel
theorem dX1_columnOf_13 : decode cX1_columnOf 13 = .ok (.goto 4, 3) := by decide +kernel
theorem dX1_columnOf_16 : decode cX1_columnOf 16 = .ok (.iconst 0, 1) := by decide +kernel
theorem dX1_columnOf_17 : decode cX1_columnOf 17 = .ok (.ireturn, 1) := by decide +kernel
theorem dX1_isIce_0 : decode cX1_isIce 0 = .ok (.aload_n 0, 1) := by decide +kernel
theorem dX1_isIce_1 : decode cX1_isIce 1 = .ok (.getfield 41, 3) := by decide +kernel
theorem dX1_isIce_4 : decode cX1_isIce 4 = .ok (.iload_n 1, 1) := by decide +kernel
theorem dX1_isIce_5 : decode cX1_isIce 5 = .ok (.invokevirtual 61, 3) := by decide +kernel
theorem dX1_isIce_8 : decode cX1_isIce 8 = .ok (.ifCond .le 7, 3) := by decide +kernel
theorem dX1_isIce_11 : decode cX1_isIce 11 = .ok (.iconst 1, 1) := by decide +kernel
theorem dX1_isIce_12 : decode cX1_isIce 12 = .ok (.goto 4, 3) := by decide +kernel
theorem dX1_isIce_15 : decode cX1_isIce 15 = .ok (.iconst 0, 1) := by decide +kernel
theorem dX1_isIce_16 : decode cX1_isIce 16 = .ok (.ireturn, 1) := by decide +kernel
theorem dX1_iceCells_0 : decode cX1_iceCells 0 = .ok (.iconst 0, 1) := by decide +kernel
theorem dX1_iceCells_1 : decode cX1_iceCells 1 = .ok (.istore_n 1, 1) := by decide +kernel
theorem dX1_iceCells_2 : decode cX1_iceCells 2 = .ok (.iconst 0, 1) := by decide +kernel
theorem dX1_iceCells_3 : decode cX1_iceCells 3 = .ok (.istore_n 2, 1) := by decide +kernel
theorem dX1_iceCells_4 : decode cX1_iceCells 4 = .ok (.iload_n 2, 1) := by decide +kernel
theorem dX1_iceCells_5 : decode cX1_iceCells 5 = .ok (.aload_n 0, 1) := by decide +kernel
theorem dX1_iceCells_6 : decode cX1_iceCells 6 = .ok (.invokevirtual 69, 3) := by decide +kernel
theorem dX1_iceCells_9 : decode cX1_iceCells 9 = .ok (.if_icmp .ge 20, 3) := by decide +kernel
theorem dX1_iceCells_12 : decode cX1_iceCells 12 = .ok (.aload_n 0, 1) := by decide +kernel
theorem dX1_iceCells_13 : decode cX1_iceCells 13 = .ok (.iload_n 2, 1) := by decide +kernel
theorem dX1_iceCells_14 : decode cX1_iceCells 14 = .ok (.invokevirtual 76, 3) := by decide +kernel
theorem dX1_iceCells_17 : decode cX1_iceCells 17 = .ok (.ifCond .eq 6, 3) := by decide +kernel
theorem dX1_iceCells_20 : decode cX1_iceCells 20 = .ok (.iinc 1 1, 3) := by decide +kernel
theorem dX1_iceCells_23 : decode cX1_iceCells 23 = .ok (.iinc 2 1, 3) := by decide +kernel
theorem dX1_iceCells_26 : decode cX1_iceCells 26 = .ok (.goto (-22), 3) := by decide +kernel
theorem dX1_iceCells_29 : decode cX1_iceCells 29 = .ok (.iload_n 1, 1) := by decide +kernel
theorem dX1_iceCells_30 : decode cX1_iceCells 30 = .ok (.ireturn, 1) := by decide +kernel
theorem dX1_beside_0 : decode cX1_beside 0 = .ok (.iload_n 2, 1) := by decide +kernel
theorem dX1_beside_1 : decode cX1_beside 1 = .ok (.tableswitch 112 0 3 #[31, 53, 77, 96], 31) := by decide +kernel
theorem dX1_beside_32 : decode cX1_beside 32 = .ok (.aload_n 0, 1) := by decide +kernel
theorem dX1_beside_33 : decode cX1_beside 33 = .ok (.iload_n 1, 1) := by decide +kernel
theorem dX1_beside_34 : decode cX1_beside 34 = .ok (.invokevirtual 80, 3) := by decide +kernel
theorem dX1_beside_37 : decode cX1_beside 37 = .ok (.aload_n 0, 1) := by decide +kernel
theorem dX1_beside_38 : decode cX1_beside 38 = .ok (.getfield 11, 3) := by decide +kernel
theorem dX1_beside_41 : decode cX1_beside 41 = .ok (.iconst 1, 1) := by decide +kernel
theorem dX1_beside_42 : decode cX1_beside 42 = .ok (.isub, 1) := by decide +kernel
theorem dX1_beside_43 : decode cX1_beside 43 = .ok (.if_icmp .ge 9, 3) := by decide +kernel
theorem dX1_beside_46 : decode cX1_beside 46 = .ok (.iload_n 1, 1) := by decide +kernel
theorem dX1_beside_47 : decode cX1_beside 47 = .ok (.iconst 1, 1) := by decide +kernel
theorem dX1_beside_48 : decode cX1_beside 48 = .ok (.iadd, 1) := by decide +kernel
theorem dX1_beside_49 : decode cX1_beside 49 = .ok (.goto 4, 3) := by decide +kernel
theorem dX1_beside_52 : decode cX1_beside 52 = .ok (.iconst (-1), 1) := by decide +kernel
theorem dX1_beside_53 : decode cX1_beside 53 = .ok (.ireturn, 1) := by decide +kernel
theorem dX1_beside_54 : decode cX1_beside 54 = .ok (.iload_n 1, 1) := by decide +kernel
theorem dX1_beside_55 : decode cX1_beside 55 = .ok (.aload_n 0, 1) := by decide +kernel
theorem dX1_beside_56 : decode cX1_beside 56 = .ok (.getfield 11, 3) := by decide +kernel
theorem dX1_beside_59 : decode cX1_beside 59 = .ok (.iadd, 1) := by decide +kernel
theorem dX1_beside_60 : decode cX1_beside 60 = .ok (.aload_n 0, 1) := by decide +kernel
theorem dX1_beside_61 : decode cX1_beside 61 = .ok (.invokevirtual 69, 3) := by decide +kernel
theorem dX1_beside_64 : decode cX1_beside 64 = .ok (.if_icmp .ge 12, 3) := by decide +kernel
theorem dX1_beside_67 : decode cX1_beside 67 = .ok (.iload_n 1, 1) := by decide +kernel
theorem dX1_beside_68 : decode cX1_beside 68 = .ok (.aload_n 0, 1) := by decide +kernel
theorem dX1_beside_69 : decode cX1_beside 69 = .ok (.getfield 11, 3) := by decide +kernel
theorem dX1_beside_72 : decode cX1_beside 72 = .ok (.iadd, 1) := by decide +kernel
theorem dX1_beside_73 : decode cX1_beside 73 = .ok (.goto 4, 3) := by decide +kernel
theorem dX1_beside_76 : decode cX1_beside 76 = .ok (.iconst (-1), 1) := by decide +kernel
theorem dX1_beside_77 : decode cX1_beside 77 = .ok (.ireturn, 1) := by decide +kernel
theorem dX1_beside_78 : decode cX1_beside 78 = .ok (.iload_n 1, 1) := by decide +kernel
theorem dX1_beside_79 : decode cX1_beside 79 = .ok (.aload_n 0, 1) := by decide +kernel
theorem dX1_beside_80 : decode cX1_beside 80 = .ok (.getfield 11, 3) := by decide +kernel
theorem dX1_beside_83 : decode cX1_beside 83 = .ok (.if_icmp .lt 12, 3) := by decide +kernel
theorem dX1_beside_86 : decode cX1_beside 86 = .ok (.iload_n 1, 1) := by decide +kernel
theorem dX1_beside_87 : decode cX1_beside 87 = .ok (.aload_n 0, 1) := by decide +kernel
theorem dX1_beside_88 : decode cX1_beside 88 = .ok (.getfield 11, 3) := by decide +kernel
theorem dX1_beside_91 : decode cX1_beside 91 = .ok (.isub, 1) := by decide +kernel
theorem dX1_beside_92 : decode cX1_beside 92 = .ok (.goto 4, 3) := by decide +kernel
theorem dX1_beside_95 : decode cX1_beside 95 = .ok (.iconst (-1), 1) := by decide +kernel
theorem dX1_beside_96 : decode cX1_beside 96 = .ok (.ireturn, 1) := by decide +kernel
theorem dX1_beside_97 : decode cX1_beside 97 = .ok (.aload_n 0, 1) := by decide +kernel
theorem dX1_beside_98 : decode cX1_beside 98 = .ok (.iload_n 1, 1) := by decide +kernel
theorem dX1_beside_99 : decode cX1_beside 99 = .ok (.invokevirtual 80, 3) := by decide +kernel
theorem dX1_beside_102 : decode cX1_beside 102 = .ok (.ifCond .le 9, 3) := by decide +kernel
theorem dX1_beside_105 : decode cX1_beside 105 = .ok (.iload_n 1, 1) := by decide +kernel
theorem dX1_beside_106 : decode cX1_beside 106 = .ok (.iconst 1, 1) := by decide +kernel
theorem dX1_beside_107 : decode cX1_beside 107 = .ok (.isub, 1) := by decide +kernel
theorem dX1_beside_108 : decode cX1_beside 108 = .ok (.goto 4, 3) := by decide +kernel
theorem dX1_beside_111 : decode cX1_beside 111 = .ok (.iconst (-1), 1) := by decide +kernel
theorem dX1_beside_112 : decode cX1_beside 112 = .ok (.ireturn, 1) := by decide +kernel
theorem dX1_beside_113 : decode cX1_beside 113 = .ok (.iconst (-1), 1) := by decide +kernel
theorem dX1_beside_114 : decode cX1_beside 114 = .ok (.ireturn, 1) := by decide +kernel
theorem dX1_canCut_0 : decode cX1_canCut 0 = .ok (.iload_n 2, 1) := by decide +kernel
theorem dX1_canCut_1 : decode cX1_canCut 1 = .ok (.iconst 2, 1) := by decide +kernel
theorem dX1_canCut_2 : decode cX1_canCut 2 = .ok (.if_icmp .eq 13, 3) := by decide +kernel
theorem dX1_canCut_5 : decode cX1_canCut 5 = .ok (.aload_n 0, 1) := by decide +kernel
theorem dX1_canCut_6 : decode cX1_canCut 6 = .ok (.iload_n 1, 1) := by decide +kernel
theorem dX1_canCut_7 : decode cX1_canCut 7 = .ok (.iload_n 2, 1) := by decide +kernel
theorem dX1_canCut_8 : decode cX1_canCut 8 = .ok (.invokevirtual 83, 3) := by decide +kernel
theorem dX1_canCut_11 : decode cX1_canCut 11 = .ok (.iconst (-1), 1) := by decide +kernel
theorem dX1_canCut_12 : decode cX1_canCut 12 = .ok (.if_icmp .eq 7, 3) := by decide +kernel
theorem dX1_canCut_15 : decode cX1_canCut 15 = .ok (.iconst 1, 1) := by decide +kernel
theorem dX1_canCut_16 : decode cX1_canCut 16 = .ok (.goto 4, 3) := by decide +kernel
theorem dX1_canCut_19 : decode cX1_canCut 19 = .ok (.iconst 0, 1) := by decide +kernel
theorem dX1_canCut_20 : decode cX1_canCut 20 = .ok (.ireturn, 1) := by decide +kernel
theorem dX1_cutPlace_0 : decode cX1_cutPlace 0 = .ok (.iload_n 2, 1) := by decide +kernel
theorem dX1_cutPlace_1 : decode cX1_cutPlace 1 = .ok (.tableswitch 50 0 3 #[31, 38, 50, 45], 31) := by decide +kernel
theorem dX1_cutPlace_32 : decode cX1_cutPlace 32 = .ok (.bipush 56, 2) := by decide +kernel
theorem dX1_cutPlace_34 : decode cX1_cutPlace 34 = .ok (.iload_n 1, 1) := by decide +kernel
theorem dX1_cutPlace_35 : decode cX1_cutPlace 35 = .ok (.iadd, 1) := by decide +kernel
theorem dX1_cutPlace_36 : decode cX1_cutPlace 36 = .ok (.iconst 1, 1) := by decide +kernel
theorem dX1_cutPlace_37 : decode cX1_cutPlace 37 = .ok (.iadd, 1) := by decide +kernel
theorem dX1_cutPlace_38 : decode cX1_cutPlace 38 = .ok (.ireturn, 1) := by decide +kernel
theorem dX1_cutPlace_39 : decode cX1_cutPlace 39 = .ok (.iload_n 1, 1) := by decide +kernel
theorem dX1_cutPlace_40 : decode cX1_cutPlace 40 = .ok (.aload_n 0, 1) := by decide +kernel
theorem dX1_cutPlace_41 : decode cX1_cutPlace 41 = .ok (.getfield 11, 3) := by decide +kernel
theorem dX1_cutPlace_44 : decode cX1_cutPlace 44 = .ok (.iadd, 1) := by decide +kernel
theorem dX1_cutPlace_45 : decode cX1_cutPlace 45 = .ok (.ireturn, 1) := by decide +kernel
theorem dX1_cutPlace_46 : decode cX1_cutPlace 46 = .ok (.bipush 56, 2) := by decide +kernel
theorem dX1_cutPlace_48 : decode cX1_cutPlace 48 = .ok (.iload_n 1, 1) := by decide +kernel
theorem dX1_cutPlace_49 : decode cX1_cutPlace 49 = .ok (.iadd, 1) := by decide +kernel
theorem dX1_cutPlace_50 : decode cX1_cutPlace 50 = .ok (.ireturn, 1) := by decide +kernel
theorem dX1_cutPlace_51 : decode cX1_cutPlace 51 = .ok (.iload_n 1, 1) := by decide +kernel
theorem dX1_cutPlace_52 : decode cX1_cutPlace 52 = .ok (.ireturn, 1) := by decide +kernel
theorem dX1_cutAt_0 : decode cX1_cutAt 0 = .ok (.aload_n 0, 1) := by decide +kernel
theorem dX1_cutAt_1 : decode cX1_cutAt 1 = .ok (.getfield 45, 3) := by decide +kernel
theorem dX1_cutAt_4 : decode cX1_cutAt 4 = .ok (.aload_n 0, 1) := by decide +kernel
theorem dX1_cutAt_5 : decode cX1_cutAt 5 = .ok (.iload_n 1, 1) := by decide +kernel
theorem dX1_cutAt_6 : decode cX1_cutAt 6 = .ok (.iload_n 2, 1) := by decide +kernel
theorem dX1_cutAt_7 : decode cX1_cutAt 7 = .ok (.invokevirtual 87, 3) := by decide +kernel
theorem dX1_cutAt_10 : decode cX1_cutAt 10 = .ok (.invokevirtual 61, 3) := by decide +kernel
theorem dX1_cutAt_13 : decode cX1_cutAt 13 = .ok (.ireturn, 1) := by decide +kernel
theorem dX1_cutSide_0 : decode cX1_cutSide 0 = .ok (.aload_n 0, 1) := by decide +kernel
theorem dX1_cutSide_1 : decode cX1_cutSide 1 = .ok (.iload_n 1, 1) := by decide +kernel
theorem dX1_cutSide_2 : decode cX1_cutSide 2 = .ok (.iload_n 2, 1) := by decide +kernel
theorem dX1_cutSide_3 : decode cX1_cutSide 3 = .ok (.invokevirtual 90, 3) := by decide +kernel
theorem dX1_cutSide_6 : decode cX1_cutSide 6 = .ok (.ifCond .eq 13, 3) := by decide +kernel
theorem dX1_cutSide_9 : decode cX1_cutSide 9 = .ok (.aload_n 0, 1) := by decide +kernel
theorem dX1_cutSide_10 : decode cX1_cutSide 10 = .ok (.iload_n 1, 1) := by decide +kernel
theorem dX1_cutSide_11 : decode cX1_cutSide 11 = .ok (.iload_n 2, 1) := by decide +kernel
theorem dX1_cutSide_12 : decode cX1_cutSide 12 = .ok (.invokevirtual 94, 3) := by decide +kernel
theorem dX1_cutSide_15 : decode cX1_cutSide 15 = .ok (.iconst 1, 1) := by decide +kernel
theorem dX1_cutSide_16 : decode cX1_cutSide 16 = .ok (.if_icmp .ne 5, 3) := by decide +kernel
theorem dX1_cutSide_19 : decode cX1_cutSide 19 = .ok (.iconst 0, 1) := by decide +kernel
theorem dX1_cutSide_20 : decode cX1_cutSide 20 = .ok (.ireturn, 1) := by decide +kernel
theorem dX1_cutSide_21 : decode cX1_cutSide 21 = .ok (.aload_n 0, 1) := by decide +kernel
theorem dX1_cutSide_22 : decode cX1_cutSide 22 = .ok (.getfield 45, 3) := by decide +kernel
theorem dX1_cutSide_25 : decode cX1_cutSide 25 = .ok (.aload_n 0, 1) := by decide +kernel
theorem dX1_cutSide_26 : decode cX1_cutSide 26 = .ok (.iload_n 1, 1) := by decide +kernel
theorem dX1_cutSide_27 : decode cX1_cutSide 27 = .ok (.iload_n 2, 1) := by decide +kernel
theorem dX1_cutSide_28 : decode cX1_cutSide 28 = .ok (.invokevirtual 87, 3) := by decide +kernel
theorem dX1_cutSide_31 : decode cX1_cutSide 31 = .ok (.iconst 1, 1) := by decide +kernel
theorem dX1_cutSide_32 : decode cX1_cutSide 32 = .ok (.invokevirtual 65, 3) := by decide +kernel
theorem dX1_cutSide_35 : decode cX1_cutSide 35 = .ok (.iconst 1, 1) := by decide +kernel
theorem dX1_cutSide_36 : decode cX1_cutSide 36 = .ok (.ireturn, 1) := by decide +kernel
theorem dX1_cutRectangle_0 : decode cX1_cutRectangle 0 = .ok (.iconst 0, 1) := by decide +kernel
theorem dX1_cutRectangle_1 : decode cX1_cutRectangle 1 = .ok (.istore 4, 2) := by decide +kernel
theorem dX1_cutRectangle_3 : decode cX1_cutRectangle 3 = .ok (.iconst 0, 1) := by decide +kernel
theorem dX1_cutRectangle_4 : decode cX1_cutRectangle 4 = .ok (.istore 5, 2) := by decide +kernel
theorem dX1_cutRectangle_6 : decode cX1_cutRectangle 6 = .ok (.iload 5, 2) := by decide +kernel
theorem dX1_cutRectangle_8 : decode cX1_cutRectangle 8 = .ok (.iload_n 2, 1) := by decide +kernel
theorem dX1_cutRectangle_9 : decode cX1_cutRectangle 9 = .ok (.if_icmp .ge 46, 3) := by decide +kernel
theorem dX1_cutRectangle_12 : decode cX1_cutRectangle 12 = .ok (.iload 4, 2) := by decide +kernel
theorem dX1_cutRectangle_14 : decode cX1_cutRectangle 14 = .ok (.aload_n 0, 1) := by decide +kernel
theorem dX1_cutRectangle_15 : decode cX1_cutRectangle 15 = .ok (.iload_n 1, 1) := by decide +kernel
theorem dX1_cutRectangle_16 : decode cX1_cutRectangle 16 = .ok (.iload 5, 2) := by decide +kernel
theorem dX1_cutRectangle_18 : decode cX1_cutRectangle 18 = .ok (.iadd, 1) := by decide +kernel
theorem dX1_cutRectangle_19 : decode cX1_cutRectangle 19 = .ok (.iconst 2, 1) := by decide +kernel
theorem dX1_cutRectangle_20 : decode cX1_cutRectangle 20 = .ok (.invokevirtual 97, 3) := by decide +kernel
theorem dX1_cutRectangle_23 : decode cX1_cutRectangle 23 = .ok (.iadd, 1) := by decide +kernel
theorem dX1_cutRectangle_24 : decode cX1_cutRectangle 24 = .ok (.istore 4, 2) := by decide +kernel
theorem dX1_cutRectangle_26 : decode cX1_cutRectangle 26 = .ok (.iload 4, 2) := by decide +kernel
theorem dX1_cutRectangle_28 : decode cX1_cutRectangle 28 = .ok (.aload_n 0, 1) := by decide +kernel
theorem dX1_cutRectangle_29 : decode cX1_cutRectangle 29 = .ok (.iload_n 1, 1) := by decide +kernel
theorem dX1_cutRectangle_30 : decode cX1_cutRectangle 30 = .ok (.iload_n 3, 1) := by decide +kernel
theorem dX1_cutRectangle_31 : decode cX1_cutRectangle 31 = .ok (.iconst 1, 1) := by decide +kernel
theorem dX1_cutRectangle_32 : decode cX1_cutRectangle 32 = .ok (.isub, 1) := by decide +kernel
theorem dX1_cutRectangle_33 : decode cX1_cutRectangle 33 = .ok (.aload_n 0, 1) := by decide +kernel
theorem dX1_cutRectangle_34 : decode cX1_cutRectangle 34 = .ok (.getfield 11, 3) := by decide +kernel
theorem dX1_cutRectangle_37 : decode cX1_cutRectangle 37 = .ok (.imul, 1) := by decide +kernel
theorem dX1_cutRectangle_38 : decode cX1_cutRectangle 38 = .ok (.iadd, 1) := by decide +kernel
theorem dX1_cutRectangle_39 : decode cX1_cutRectangle 39 = .ok (.iload 5, 2) := by decide +kernel
theorem dX1_cutRectangle_41 : decode cX1_cutRectangle 41 = .ok (.iadd, 1) := by decide +kernel
theorem dX1_cutRectangle_42 : decode cX1_cutRectangle 42 = .ok (.iconst 1, 1) := by decide +kernel
theorem dX1_cutRectangle_43 : decode cX1_cutRectangle 43 = .ok (.invokevirtual 97, 3) := by decide +kernel
theorem dX1_cutRectangle_46 : decode cX1_cutRectangle 46 = .ok (.iadd, 1) := by decide +kernel
theorem dX1_cutRectangle_47 : decode cX1_cutRectangle 47 = .ok (.istore 4, 2) := by decide +kernel
theorem dX1_cutRectangle_49 : decode cX1_cutRectangle 49 = .ok (.iinc 5 1, 3) := by decide +kernel
theorem dX1_cutRectangle_52 : decode cX1_cutRectangle 52 = .ok (.goto (-46), 3) := by decide +kernel
theorem dX1_cutRectangle_55 : decode cX1_cutRectangle 55 = .ok (.iconst 0, 1) := by decide +kernel
theorem dX1_cutRectangle_56 : decode cX1_cutRectangle 56 = .ok (.istore 5, 2) := by decide +kernel
theorem dX1_cutRectangle_58 : decode cX1_cutRectangle 58 = .ok (.iload 5, 2) := by decide +kernel
theorem dX1_cutRectangle_60 : decode cX1_cutRectangle 60 = .ok (.iload_n 3, 1) := by decide +kernel
theorem dX1_cutRectangle_61 : decode cX1_cutRectangle 61 = .ok (.if_icmp .ge 51, 3) := by decide +kernel
theorem dX1_cutRectangle_64 : decode cX1_cutRectangle 64 = .ok (.iload 4, 2) := by decide +kernel
theorem dX1_cutRectangle_66 : decode cX1_cutRectangle 66 = .ok (.aload_n 0, 1) := by decide +kernel
theorem dX1_cutRectangle_67 : decode cX1_cutRectangle 67 = .ok (.iload_n 1, 1) := by decide +kernel
theorem dX1_cutRectangle_68 : decode cX1_cutRectangle 68 = .ok (.iload 5, 2) := by decide +kernel
theorem dX1_cutRectangle_70 : decode cX1_cutRectangle 70 = .ok (.aload_n 0, 1) := by decide +kernel
theorem dX1_cutRectangle_71 : decode cX1_cutRectangle 71 = .ok (.getfield 11, 3) := by decide +kernel
theorem dX1_cutRectangle_74 : decode cX1_cutRectangle 74 = .ok (.imul, 1) := by decide +kernel
theorem dX1_cutRectangle_75 : decode cX1_cutRectangle 75 = .ok (.iadd, 1) := by decide +kernel
theorem dX1_cutRectangle_76 : decode cX1_cutRectangle 76 = .ok (.iconst 3, 1) := by decide +kernel
theorem dX1_cutRectangle_77 : decode cX1_cutRectangle 77 = .ok (.invokevirtual 97, 3) := by decide +kernel
theorem dX1_cutRectangle_80 : decode cX1_cutRectangle 80 = .ok (.iadd, 1) := by decide +kernel
theorem dX1_cutRectangle_81 : decode cX1_cutRectangle 81 = .ok (.istore 4, 2) := by decide +kernel
theorem dX1_cutRectangle_83 : decode cX1_cutRectangle 83 = .ok (.iload 4, 2) := by decide +kernel
theorem dX1_cutRectangle_85 : decode cX1_cutRectangle 85 = .ok (.aload_n 0, 1) := by decide +kernel
theorem dX1_cutRectangle_86 : decode cX1_cutRectangle 86 = .ok (.iload_n 1, 1) := by decide +kernel
theorem dX1_cutRectangle_87 : decode cX1_cutRectangle 87 = .ok (.iload 5, 2) := by decide +kernel
theorem dX1_cutRectangle_89 : decode cX1_cutRectangle 89 = .ok (.aload_n 0, 1) := by decide +kernel
theorem dX1_cutRectangle_90 : decode cX1_cutRectangle 90 = .ok (.getfield 11, 3) := by decide +kernel
theorem dX1_cutRectangle_93 : decode cX1_cutRectangle 93 = .ok (.imul, 1) := by decide +kernel
theorem dX1_cutRectangle_94 : decode cX1_cutRectangle 94 = .ok (.iadd, 1) := by decide +kernel
theorem dX1_cutRectangle_95 : decode cX1_cutRectangle 95 = .ok (.iload_n 2, 1) := by decide +kernel
theorem dX1_cutRectangle_96 : decode cX1_cutRectangle 96 = .ok (.iadd, 1) := by decide +kernel
theorem dX1_cutRectangle_97 : decode cX1_cutRectangle 97 = .ok (.iconst 1, 1) := by decide +kernel
theorem dX1_cutRectangle_98 : decode cX1_cutRectangle 98 = .ok (.isub, 1) := by decide +kernel
theorem dX1_cutRectangle_99 : decode cX1_cutRectangle 99 = .ok (.iconst 0, 1) := by decide +kernel
theorem dX1_cutRectangle_100 : decode cX1_cutRectangle 100 = .ok (.invokevirtual 97, 3) := by decide +kernel
theorem dX1_cutRectangle_103 : decode cX1_cutRectangle 103 = .ok (.iadd, 1) := by decide +kernel
theorem dX1_cutRectangle_104 : decode cX1_cutRectangle 104 = .ok (.istore 4, 2) := by decide +kernel
theorem dX1_cutRectangle_106 : decode cX1_cutRectangle 106 = .ok (.iinc 5 1, 3) := by decide +kernel
theorem dX1_cutRectangle_109 : decode cX1_cutRectangle 109 = .ok (.goto (-51), 3) := by decide +kernel
theorem dX1_cutRectangle_112 : decode cX1_cutRectangle 112 = .ok (.iload 4, 2) := by decide +kernel
theorem dX1_cutRectangle_114 : decode cX1_cutRectangle 114 = .ok (.ireturn, 1) := by decide +kernel
theorem dX1_isTiedToShore_0 : decode cX1_isTiedToShore 0 = .ok (.iload_n 1, 1) := by decide +kernel
theorem dX1_isTiedToShore_1 : decode cX1_isTiedToShore 1 = .ok (.aload_n 0, 1) := by decide +kernel
theorem dX1_isTiedToShore_2 : decode cX1_isTiedToShore 2 = .ok (.getfield 11, 3) := by decide +kernel
theorem dX1_isTiedToShore_5 : decode cX1_isTiedToShore 5 = .ok (.if_icmp .ge 16, 3) := by decide +kernel
theorem dX1_isTiedToShore_8 : decode cX1_isTiedToShore 8 = .ok (.aload_n 0, 1) := by decide +kernel
theorem dX1_isTiedToShore_9 : decode cX1_isTiedToShore 9 = .ok (.iload_n 1, 1) := by decide +kernel
theorem dX1_isTiedToShore_10 : decode cX1_isTiedToShore 10 = .ok (.iconst 2, 1) := by decide +kernel
theorem dX1_isTiedToShore_11 : decode cX1_isTiedToShore 11 = .ok (.invokevirtual 94, 3) := by decide +kernel
theorem dX1_isTiedToShore_14 : decode cX1_isTiedToShore 14 = .ok (.ifCond .ne 7, 3) := by decide +kernel
theorem dX1_isTiedToShore_17 : decode cX1_isTiedToShore 17 = .ok (.iconst 1, 1) := by decide +kernel
theorem dX1_isTiedToShore_18 : decode cX1_isTiedToShore 18 = .ok (.goto 4, 3) := by decide +kernel
theorem dX1_isTiedToShore_21 : decode cX1_isTiedToShore 21 = .ok (.iconst 0, 1) := by decide +kernel
theorem dX1_isTiedToShore_22 : decode cX1_isTiedToShore 22 = .ok (.ireturn, 1) := by decide +kernel
theorem dX1_waterBeside_0 : decode cX1_waterBeside 0 = .ok (.iconst 0, 1) := by decide +kernel
theorem dX1_waterBeside_1 : decode cX1_waterBeside 1 = .ok (.istore_n 2, 1) := by decide +kernel
theorem dX1_waterBeside_2 : decode cX1_waterBeside 2 = .ok (.iconst 0, 1) := by decide +kernel
theorem dX1_waterBeside_3 : decode cX1_waterBeside 3 = .ok (.istore_n 3, 1) := by decide +kernel
theorem dX1_waterBeside_4 : decode cX1_waterBeside 4 = .ok (.iload_n 3, 1) := by decide +kernel
theorem dX1_waterBeside_5 : decode cX1_waterBeside 5 = .ok (.iconst 4, 1) := by decide +kernel
theorem dX1_waterBeside_6 : decode cX1_waterBeside 6 = .ok (.if_icmp .ge 43, 3) := by decide +kernel
theorem dX1_waterBeside_9 : decode cX1_waterBeside 9 = .ok (.aload_n 0, 1) := by decide +kernel
theorem dX1_waterBeside_10 : decode cX1_waterBeside 10 = .ok (.iload_n 1, 1) := by decide +kernel
theorem dX1_waterBeside_11 : decode cX1_waterBeside 11 = .ok (.iload_n 3, 1) := by decide +kernel
theorem dX1_waterBeside_12 : decode cX1_waterBeside 12 = .ok (.invokevirtual 83, 3) := by decide +kernel
theorem dX1_waterBeside_15 : decode cX1_waterBeside 15 = .ok (.istore 4, 2) := by decide +kernel
theorem dX1_waterBeside_17 : decode cX1_waterBeside 17 = .ok (.iload 4, 2) := by decide +kernel
theorem dX1_waterBeside_19 : decode cX1_waterBeside 19 = .ok (.iconst (-1), 1) := by decide +kernel
theorem dX1_waterBeside_20 : decode cX1_waterBeside 20 = .ok (.if_icmp .ne 11, 3) := by decide +kernel
theorem dX1_waterBeside_23 : decode cX1_waterBeside 23 = .ok (.iload_n 3, 1) := by decide +kernel
theorem dX1_waterBeside_24 : decode cX1_waterBeside 24 = .ok (.iconst 1, 1) := by decide +kernel
theorem dX1_waterBeside_25 : decode cX1_waterBeside 25 = .ok (.if_icmp .ne 18, 3) := by decide +kernel
theorem dX1_waterBeside_28 : decode cX1_waterBeside 28 = .ok (.goto 12, 3) := by decide +kernel
theorem dX1_waterBeside_31 : decode cX1_waterBeside 31 = .ok (.aload_n 0, 1) := by decide +kernel
theorem dX1_waterBeside_32 : decode cX1_waterBeside 32 = .ok (.iload 4, 2) := by decide +kernel
theorem dX1_waterBeside_34 : decode cX1_waterBeside 34 = .ok (.invokevirtual 76, 3) := by decide +kernel
theorem dX1_waterBeside_37 : decode cX1_waterBeside 37 = .ok (.ifCond .ne 6, 3) := by decide +kernel
theorem dX1_waterBeside_40 : decode cX1_waterBeside 40 = .ok (.iinc 2 1, 3) := by decide +kernel
theorem dX1_waterBeside_43 : decode cX1_waterBeside 43 = .ok (.iinc 3 1, 3) := by decide +kernel
theorem dX1_waterBeside_46 : decode cX1_waterBeside 46 = .ok (.goto (-42), 3) := by decide +kernel
theorem dX1_waterBeside_49 : decode cX1_waterBeside 49 = .ok (.iload_n 2, 1) := by decide +kernel
theorem dX1_waterBeside_50 : decode cX1_waterBeside 50 = .ok (.ireturn, 1) := by decide +kernel
theorem dX1_lossOf_0 : decode cX1_lossOf 0 = .ok (.aload_n 0, 1) := by decide +kernel
theorem dX1_lossOf_1 : decode cX1_lossOf 1 = .ok (.iload_n 1, 1) := by decide +kernel
theorem dX1_lossOf_2 : decode cX1_lossOf 2 = .ok (.invokevirtual 100, 3) := by decide +kernel
theorem dX1_lossOf_5 : decode cX1_lossOf 5 = .ok (.iconst 2, 1) := by decide +kernel
theorem dX1_lossOf_6 : decode cX1_lossOf 6 = .ok (.if_icmp .lt 12, 3) := by decide +kernel
theorem dX1_lossOf_9 : decode cX1_lossOf 9 = .ok (.aload_n 0, 1) := by decide +kernel
theorem dX1_lossOf_10 : decode cX1_lossOf 10 = .ok (.getfield 18, 3) := by decide +kernel
theorem dX1_lossOf_13 : decode cX1_lossOf 13 = .ok (.iconst 1, 1) := by decide +kernel
theorem dX1_lossOf_14 : decode cX1_lossOf 14 = .ok (.iadd, 1) := by decide +kernel
theorem dX1_lossOf_15 : decode cX1_lossOf 15 = .ok (.goto 7, 3) := by decide +kernel
theorem dX1_lossOf_18 : decode cX1_lossOf 18 = .ok (.aload_n 0, 1) := by decide +kernel
theorem dX1_lossOf_19 : decode cX1_lossOf 19 = .ok (.getfield 18, 3) := by decide +kernel
theorem dX1_lossOf_22 : decode cX1_lossOf 22 = .ok (.istore_n 2, 1) := by decide +kernel
theorem dX1_lossOf_23 : decode cX1_lossOf 23 = .ok (.aload_n 0, 1) := by decide +kernel
theorem dX1_lossOf_24 : decode cX1_lossOf 24 = .ok (.getfield 41, 3) := by decide +kernel
theorem dX1_lossOf_27 : decode cX1_lossOf 27 = .ok (.iload_n 1, 1) := by decide +kernel
theorem dX1_lossOf_28 : decode cX1_lossOf 28 = .ok (.invokevirtual 61, 3) := by decide +kernel
theorem dX1_lossOf_31 : decode cX1_lossOf 31 = .ok (.istore_n 3, 1) := by decide +kernel
theorem dX1_lossOf_32 : decode cX1_lossOf 32 = .ok (.iload_n 2, 1) := by decide +kernel
theorem dX1_lossOf_33 : decode cX1_lossOf 33 = .ok (.iload_n 3, 1) := by decide +kernel
theorem dX1_lossOf_34 : decode cX1_lossOf 34 = .ok (.if_icmp .ge 7, 3) := by decide +kernel
theorem dX1_lossOf_37 : decode cX1_lossOf 37 = .ok (.iload_n 2, 1) := by decide +kernel
theorem dX1_lossOf_38 : decode cX1_lossOf 38 = .ok (.goto 4, 3) := by decide +kernel
theorem dX1_lossOf_41 : decode cX1_lossOf 41 = .ok (.iload_n 3, 1) := by decide +kernel
theorem dX1_lossOf_42 : decode cX1_lossOf 42 = .ok (.ireturn, 1) := by decide +kernel
theorem dX1_meltOneDay_0 : decode cX1_meltOneDay 0 = .ok (.iconst 0, 1) := by decide +kernel
theorem dX1_meltOneDay_1 : decode cX1_meltOneDay 1 = .ok (.istore_n 1, 1) := by decide +kernel
theorem dX1_meltOneDay_2 : decode cX1_meltOneDay 2 = .ok (.iload_n 1, 1) := by decide +kernel
theorem dX1_meltOneDay_3 : decode cX1_meltOneDay 3 = .ok (.aload_n 0, 1) := by decide +kernel
theorem dX1_meltOneDay_4 : decode cX1_meltOneDay 4 = .ok (.invokevirtual 69, 3) := by decide +kernel
theorem dX1_meltOneDay_7 : decode cX1_meltOneDay 7 = .ok (.if_icmp .ge 22, 3) := by decide +kernel
theorem dX1_meltOneDay_10 : decode cX1_meltOneDay 10 = .ok (.aload_n 0, 1) := by decide +kernel
theorem dX1_meltOneDay_11 : decode cX1_meltOneDay 11 = .ok (.getfield 51, 3) := by decide +kernel
theorem dX1_meltOneDay_14 : decode cX1_meltOneDay 14 = .ok (.iload_n 1, 1) := by decide +kernel
theorem dX1_meltOneDay_15 : decode cX1_meltOneDay 15 = .ok (.aload_n 0, 1) := by decide +kernel
theorem dX1_meltOneDay_16 : decode cX1_meltOneDay 16 = .ok (.iload_n 1, 1) := by decide +kernel
theorem dX1_meltOneDay_17 : decode cX1_meltOneDay 17 = .ok (.invokevirtual 103, 3) := by decide +kernel
theorem dX1_meltOneDay_20 : decode cX1_meltOneDay 20 = .ok (.invokevirtual 65, 3) := by decide +kernel
theorem dX1_meltOneDay_23 : decode cX1_meltOneDay 23 = .ok (.iinc 1 1, 3) := by decide +kernel
theorem dX1_meltOneDay_26 : decode cX1_meltOneDay 26 = .ok (.goto (-24), 3) := by decide +kernel
theorem dX1_meltOneDay_29 : decode cX1_meltOneDay 29 = .ok (.iconst 0, 1) := by decide +kernel
theorem dX1_meltOneDay_30 : decode cX1_meltOneDay 30 = .ok (.istore_n 1, 1) := by decide +kernel
theorem dX1_meltOneDay_31 : decode cX1_meltOneDay 31 = .ok (.iload_n 1, 1) := by decide +kernel
theorem dX1_meltOneDay_32 : decode cX1_meltOneDay 32 = .ok (.aload_n 0, 1) := by decide +kernel
theorem dX1_meltOneDay_33 : decode cX1_meltOneDay 33 = .ok (.invokevirtual 69, 3) := by decide +kernel
theorem dX1_meltOneDay_36 : decode cX1_meltOneDay 36 = .ok (.if_icmp .ge 51, 3) := by decide +kernel
theorem dX1_meltOneDay_39 : decode cX1_meltOneDay 39 = .ok (.aload_n 0, 1) := by decide +kernel
theorem dX1_meltOneDay_40 : decode cX1_meltOneDay 40 = .ok (.getfield 41, 3) := by decide +kernel
theorem dX1_meltOneDay_43 : decode cX1_meltOneDay 43 = .ok (.iload_n 1, 1) := by decide +kernel
theorem dX1_meltOneDay_44 : decode cX1_meltOneDay 44 = .ok (.aload_n 0, 1) := by decide +kernel
theorem dX1_meltOneDay_45 : decode cX1_meltOneDay 45 = .ok (.getfield 41, 3) := by decide +kernel
theorem dX1_meltOneDay_48 : decode cX1_meltOneDay 48 = .ok (.iload_n 1, 1) := by decide +kernel
theorem dX1_meltOneDay_49 : decode cX1_meltOneDay 49 = .ok (.invokevirtual 61, 3) := by decide +kernel
theorem dX1_meltOneDay_52 : decode cX1_meltOneDay 52 = .ok (.aload_n 0, 1) := by decide +kernel
theorem dX1_meltOneDay_53 : decode cX1_meltOneDay 53 = .ok (.getfield 51, 3) := by decide +kernel
theorem dX1_meltOneDay_56 : decode cX1_meltOneDay 56 = .ok (.iload_n 1, 1) := by decide +kernel
theorem dX1_meltOneDay_57 : decode cX1_meltOneDay 57 = .ok (.invokevirtual 61, 3) := by decide +kernel
theorem dX1_meltOneDay_60 : decode cX1_meltOneDay 60 = .ok (.isub, 1) := by decide +kernel
theorem dX1_meltOneDay_61 : decode cX1_meltOneDay 61 = .ok (.invokevirtual 65, 3) := by decide +kernel
theorem dX1_meltOneDay_64 : decode cX1_meltOneDay 64 = .ok (.aload_n 0, 1) := by decide +kernel
theorem dX1_meltOneDay_65 : decode cX1_meltOneDay 65 = .ok (.dup, 1) := by decide +kernel
theorem dX1_meltOneDay_66 : decode cX1_meltOneDay 66 = .ok (.getfield 27, 3) := by decide +kernel
theorem dX1_meltOneDay_69 : decode cX1_meltOneDay 69 = .ok (.aload_n 0, 1) := by decide +kernel
theorem dX1_meltOneDay_70 : decode cX1_meltOneDay 70 = .ok (.getfield 51, 3) := by decide +kernel
theorem dX1_meltOneDay_73 : decode cX1_meltOneDay 73 = .ok (.iload_n 1, 1) := by decide +kernel
theorem dX1_meltOneDay_74 : decode cX1_meltOneDay 74 = .ok (.invokevirtual 61, 3) := by decide +kernel
theorem dX1_meltOneDay_77 : decode cX1_meltOneDay 77 = .ok (.iadd, 1) := by decide +kernel
theorem dX1_meltOneDay_78 : decode cX1_meltOneDay 78 = .ok (.putfield 27, 3) := by decide +kernel
theorem dX1_meltOneDay_81 : decode cX1_meltOneDay 81 = .ok (.iinc 1 1, 3) := by decide +kernel
theorem dX1_meltOneDay_84 : decode cX1_meltOneDay 84 = .ok (.goto (-53), 3) := by decide +kernel
theorem dX1_meltOneDay_87 : decode cX1_meltOneDay 87 = .ok (.aload_n 0, 1) := by decide +kernel
theorem dX1_meltOneDay_88 : decode cX1_meltOneDay 88 = .ok (.dup, 1) := by decide +kernel
theorem dX1_meltOneDay_89 : decode cX1_meltOneDay 89 = .ok (.getfield 21, 3) := by decide +kernel
theorem dX1_meltOneDay_92 : decode cX1_meltOneDay 92 = .ok (.iconst 1, 1) := by decide +kernel
theorem dX1_meltOneDay_93 : decode cX1_meltOneDay 93 = .ok (.iadd, 1) := by decide +kernel
theorem dX1_meltOneDay_94 : decode cX1_meltOneDay 94 = .ok (.putfield 21, 3) := by decide +kernel
theorem dX1_meltOneDay_97 : decode cX1_meltOneDay 97 = .ok (.return_, 1) := by decide +kernel
theorem dX1_volumeOf_0 : decode cX1_volumeOf 0 = .ok (.iconst 0, 1) := by decide +kernel
theorem dX1_volumeOf_1 : decode cX1_volumeOf 1 = .ok (.istore_n 3, 1) := by decide +kernel
theorem dX1_volumeOf_2 : decode cX1_volumeOf 2 = .ok (.iconst 0, 1) := by decide +kernel
theorem dX1_volumeOf_3 : decode cX1_volumeOf 3 = .ok (.istore 4, 2) := by decide +kernel
theorem dX1_volumeOf_5 : decode cX1_volumeOf 5 = .ok (.iload 4, 2) := by decide +kernel
theorem dX1_volumeOf_7 : decode cX1_volumeOf 7 = .ok (.aload_n 0, 1) := by decide +kernel
theorem dX1_volumeOf_8 : decode cX1_volumeOf 8 = .ok (.invokevirtual 69, 3) := by decide +kernel
theorem dX1_volumeOf_11 : decode cX1_volumeOf 11 = .ok (.if_icmp .ge 31, 3) := by decide +kernel
theorem dX1_volumeOf_14 : decode cX1_volumeOf 14 = .ok (.aload_n 1, 1) := by decide +kernel
theorem dX1_volumeOf_15 : decode cX1_volumeOf 15 = .ok (.iload 4, 2) := by decide +kernel
theorem dX1_volumeOf_17 : decode cX1_volumeOf 17 = .ok (.invokevirtual 106, 3) := by decide +kernel
theorem dX1_volumeOf_20 : decode cX1_volumeOf 20 = .ok (.iload_n 2, 1) := by decide +kernel
theorem dX1_volumeOf_21 : decode cX1_volumeOf 21 = .ok (.if_icmp .ne 15, 3) := by decide +kernel
theorem dX1_volumeOf_24 : decode cX1_volumeOf 24 = .ok (.iload_n 3, 1) := by decide +kernel
theorem dX1_volumeOf_25 : decode cX1_volumeOf 25 = .ok (.aload_n 0, 1) := by decide +kernel
theorem dX1_volumeOf_26 : decode cX1_volumeOf 26 = .ok (.getfield 41, 3) := by decide +kernel
theorem dX1_volumeOf_29 : decode cX1_volumeOf 29 = .ok (.iload 4, 2) := by decide +kernel
theorem dX1_volumeOf_31 : decode cX1_volumeOf 31 = .ok (.invokevirtual 61, 3) := by decide +kernel
theorem dX1_volumeOf_34 : decode cX1_volumeOf 34 = .ok (.iadd, 1) := by decide +kernel
theorem dX1_volumeOf_35 : decode cX1_volumeOf 35 = .ok (.istore_n 3, 1) := by decide +kernel
theorem dX1_volumeOf_36 : decode cX1_volumeOf 36 = .ok (.iinc 4 1, 3) := by decide +kernel
theorem dX1_volumeOf_39 : decode cX1_volumeOf 39 = .ok (.goto (-34), 3) := by decide +kernel
theorem dX1_volumeOf_42 : decode cX1_volumeOf 42 = .ok (.iload_n 3, 1) := by decide +kernel
theorem dX1_volumeOf_43 : decode cX1_volumeOf 43 = .ok (.ireturn, 1) := by decide +kernel
theorem dX1_removeBlock_0 : decode cX1_removeBlock 0 = .ok (.aload_n 0, 1) := by decide +kernel
theorem dX1_removeBlock_1 : decode cX1_removeBlock 1 = .ok (.aload_n 1, 1) := by decide +kernel
theorem dX1_removeBlock_2 : decode cX1_removeBlock 2 = .ok (.iload_n 2, 1) := by decide +kernel
theorem dX1_removeBlock_3 : decode cX1_removeBlock 3 = .ok (.invokevirtual 111, 3) := by decide +kernel
theorem dX1_removeBlock_6 : decode cX1_removeBlock 6 = .ok (.istore_n 3, 1) := by decide +kernel
theorem dX1_removeBlock_7 : decode cX1_removeBlock 7 = .ok (.iconst 0, 1) := by decide +kernel
theorem dX1_removeBlock_8 : decode cX1_removeBlock 8 = .ok (.istore 4, 2) := by decide +kernel
theorem dX1_removeBlock_10 : decode cX1_removeBlock 10 = .ok (.iload 4, 2) := by decide +kernel
theorem dX1_removeBlock_12 : decode cX1_removeBlock 12 = .ok (.aload_n 0, 1) := by decide +kernel
theorem dX1_removeBlock_13 : decode cX1_removeBlock 13 = .ok (.invokevirtual 69, 3) := by decide +kernel
theorem dX1_removeBlock_16 : decode cX1_removeBlock 16 = .ok (.if_icmp .ge 29, 3) := by decide +kernel
theorem dX1_removeBlock_19 : decode cX1_removeBlock 19 = .ok (.aload_n 1, 1) := by decide +kernel
theorem dX1_removeBlock_20 : decode cX1_removeBlock 20 = .ok (.iload 4, 2) := by decide +kernel
theorem dX1_removeBlock_22 : decode cX1_removeBlock 22 = .ok (.invokevirtual 106, 3) := by decide +kernel
theorem dX1_removeBlock_25 : decode cX1_removeBlock 25 = .ok (.iload_n 2, 1) := by decide +kernel
theorem dX1_removeBlock_26 : decode cX1_removeBlock 26 = .ok (.if_icmp .ne 13, 3) := by decide +kernel
theorem dX1_removeBlock_29 : decode cX1_removeBlock 29 = .ok (.aload_n 0, 1) := by decide +kernel
theorem dX1_removeBlock_30 : decode cX1_removeBlock 30 = .ok (.getfield 41, 3) := by decide +kernel
theorem dX1_removeBlock_33 : decode cX1_removeBlock 33 = .ok (.iload 4, 2) := by decide +kernel
theorem dX1_removeBlock_35 : decode cX1_removeBlock 35 = .ok (.iconst 0, 1) := by decide +kernel
theorem dX1_removeBlock_36 : decode cX1_removeBlock 36 = .ok (.invokevirtual 65, 3) := by decide +kernel
theorem dX1_removeBlock_39 : decode cX1_removeBlock 39 = .ok (.iinc 4 1, 3) := by decide +kernel
theorem dX1_removeBlock_42 : decode cX1_removeBlock 42 = .ok (.goto (-32), 3) := by decide +kernel
theorem dX1_removeBlock_45 : decode cX1_removeBlock 45 = .ok (.aload_n 0, 1) := by decide +kernel
theorem dX1_removeBlock_46 : decode cX1_removeBlock 46 = .ok (.getfield 33, 3) := by decide +kernel
theorem dX1_removeBlock_49 : decode cX1_removeBlock 49 = .ok (.bipush 40, 2) := by decide +kernel
theorem dX1_removeBlock_51 : decode cX1_removeBlock 51 = .ok (.if_icmp .ge 52, 3) := by decide +kernel
theorem dX1_removeBlock_54 : decode cX1_removeBlock 54 = .ok (.aload_n 0, 1) := by decide +kernel
theorem dX1_removeBlock_55 : decode cX1_removeBlock 55 = .ok (.getfield 48, 3) := by decide +kernel
theorem dX1_removeBlock_58 : decode cX1_removeBlock 58 = .ok (.iconst 3, 1) := by decide +kernel
theorem dX1_removeBlock_59 : decode cX1_removeBlock 59 = .ok (.aload_n 0, 1) := by decide +kernel
theorem dX1_removeBlock_60 : decode cX1_removeBlock 60 = .ok (.getfield 33, 3) := by decide +kernel
theorem dX1_removeBlock_63 : decode cX1_removeBlock 63 = .ok (.imul, 1) := by decide +kernel
theorem dX1_removeBlock_64 : decode cX1_removeBlock 64 = .ok (.iload_n 2, 1) := by decide +kernel
theorem dX1_removeBlock_65 : decode cX1_removeBlock 65 = .ok (.invokevirtual 65, 3) := by decide +kernel
theorem dX1_removeBlock_68 : decode cX1_removeBlock 68 = .ok (.aload_n 0, 1) := by decide +kernel
theorem dX1_removeBlock_69 : decode cX1_removeBlock 69 = .ok (.getfield 48, 3) := by decide +kernel
theorem dX1_removeBlock_72 : decode cX1_removeBlock 72 = .ok (.iconst 3, 1) := by decide +kernel
theorem dX1_removeBlock_73 : decode cX1_removeBlock 73 = .ok (.aload_n 0, 1) := by decide +kernel
theorem dX1_removeBlock_74 : decode cX1_removeBlock 74 = .ok (.getfield 33, 3) := by decide +kernel
theorem dX1_removeBlock_77 : decode cX1_removeBlock 77 = .ok (.imul, 1) := by decide +kernel
theorem dX1_removeBlock_78 : decode cX1_removeBlock 78 = .ok (.iconst 1, 1) := by decide +kernel
theorem dX1_removeBlock_79 : decode cX1_removeBlock 79 = .ok (.iadd, 1) := by decide +kernel
theorem dX1_removeBlock_80 : decode cX1_removeBlock 80 = .ok (.iload_n 3, 1) := by decide +kernel
theorem dX1_removeBlock_81 : decode cX1_removeBlock 81 = .ok (.invokevirtual 65, 3) := by decide +kernel
theorem dX1_removeBlock_84 : decode cX1_removeBlock 84 = .ok (.aload_n 0, 1) := by decide +kernel
theorem dX1_removeBlock_85 : decode cX1_removeBlock 85 = .ok (.getfield 48, 3) := by decide +kernel
theorem dX1_removeBlock_88 : decode cX1_removeBlock 88 = .ok (.iconst 3, 1) := by decide +kernel
theorem dX1_removeBlock_89 : decode cX1_removeBlock 89 = .ok (.aload_n 0, 1) := by decide +kernel
theorem dX1_removeBlock_90 : decode cX1_removeBlock 90 = .ok (.getfield 33, 3) := by decide +kernel
theorem dX1_removeBlock_93 : decode cX1_removeBlock 93 = .ok (.imul, 1) := by decide +kernel
theorem dX1_removeBlock_94 : decode cX1_removeBlock 94 = .ok (.iconst 2, 1) := by decide +kernel
theorem dX1_removeBlock_95 : decode cX1_removeBlock 95 = .ok (.iadd, 1) := by decide +kernel
theorem dX1_removeBlock_96 : decode cX1_removeBlock 96 = .ok (.aload_n 0, 1) := by decide +kernel
theorem dX1_removeBlock_97 : decode cX1_removeBlock 97 = .ok (.getfield 21, 3) := by decide +kernel
theorem dX1_removeBlock_100 : decode cX1_removeBlock 100 = .ok (.invokevirtual 65, 3) := by decide +kernel
theorem dX1_removeBlock_103 : decode cX1_removeBlock 103 = .ok (.aload_n 0, 1) := by decide +kernel
theorem dX1_removeBlock_104 : decode cX1_removeBlock 104 = .ok (.dup, 1) := by decide +kernel
theorem dX1_removeBlock_105 : decode cX1_removeBlock 105 = .ok (.getfield 33, 3) := by decide +kernel
theorem dX1_removeBlock_108 : decode cX1_removeBlock 108 = .ok (.iconst 1, 1) := by decide +kernel
theorem dX1_removeBlock_109 : decode cX1_removeBlock 109 = .ok (.iadd, 1) := by decide +kernel
theorem dX1_removeBlock_110 : decode cX1_removeBlock 110 = .ok (.putfield 33, 3) := by decide +kernel
theorem dX1_removeBlock_113 : decode cX1_removeBlock 113 = .ok (.aload_n 0, 1) := by decide +kernel
theorem dX1_removeBlock_114 : decode cX1_removeBlock 114 = .ok (.dup, 1) := by decide +kernel
theorem dX1_removeBlock_115 : decode cX1_removeBlock 115 = .ok (.getfield 30, 3) := by decide +kernel
theorem dX1_removeBlock_118 : decode cX1_removeBlock 118 = .ok (.iload_n 3, 1) := by decide +kernel
theorem dX1_removeBlock_119 : decode cX1_removeBlock 119 = .ok (.iadd, 1) := by decide +kernel
theorem dX1_removeBlock_120 : decode cX1_removeBlock 120 = .ok (.putfield 30, 3) := by decide +kernel
theorem dX1_removeBlock_123 : decode cX1_removeBlock 123 = .ok (.iload_n 3, 1) := by decide +kernel
theorem dX1_removeBlock_124 : decode cX1_removeBlock 124 = .ok (.ireturn, 1) := by decide +kernel
theorem dX1_keptCount_0 : decode cX1_keptCount 0 = .ok (.aload_n 0, 1) := by decide +kernel
theorem dX1_keptCount_1 : decode cX1_keptCount 1 = .ok (.getfield 33, 3) := by decide +kernel
theorem dX1_keptCount_4 : decode cX1_keptCount 4 = .ok (.bipush 40, 2) := by decide +kernel
theorem dX1_keptCount_6 : decode cX1_keptCount 6 = .ok (.if_icmp .ge 10, 3) := by decide +kernel
theorem dX1_keptCount_9 : decode cX1_keptCount 9 = .ok (.aload_n 0, 1) := by decide +kernel
theorem dX1_keptCount_10 : decode cX1_keptCount 10 = .ok (.getfield 33, 3) := by decide +kernel
theorem dX1_keptCount_13 : decode cX1_keptCount 13 = .ok (.goto 5, 3) := by decide +kernel
theorem dX1_keptCount_16 : decode cX1_keptCount 16 = .ok (.bipush 40, 2) := by decide +kernel
theorem dX1_keptCount_18 : decode cX1_keptCount 18 = .ok (.ireturn, 1) := by decide +kernel
theorem dX1_keptFact_0 : decode cX1_keptFact 0 = .ok (.aload_n 0, 1) := by decide +kernel
theorem dX1_keptFact_1 : decode cX1_keptFact 1 = .ok (.getfield 48, 3) := by decide +kernel
theorem dX1_keptFact_4 : decode cX1_keptFact 4 = .ok (.iconst 3, 1) := by decide +kernel
theorem dX1_keptFact_5 : decode cX1_keptFact 5 = .ok (.iload_n 1, 1) := by decide +kernel
theorem dX1_keptFact_6 : decode cX1_keptFact 6 = .ok (.imul, 1) := by decide +kernel
theorem dX1_keptFact_7 : decode cX1_keptFact 7 = .ok (.iload_n 2, 1) := by decide +kernel
theorem dX1_keptFact_8 : decode cX1_keptFact 8 = .ok (.iadd, 1) := by decide +kernel
theorem dX1_keptFact_9 : decode cX1_keptFact 9 = .ok (.invokevirtual 61, 3) := by decide +kernel
theorem dX1_keptFact_12 : decode cX1_keptFact 12 = .ok (.ireturn, 1) := by decide +kernel
theorem dX2_init_0 : decode cX2_init 0 = .ok (.aload_n 0, 1) := by decide +kernel
theorem dX2_init_1 : decode cX2_init 1 = .ok (.invokespecial 1, 3) := by decide +kernel
theorem dX2_init_4 : decode cX2_init 4 = .ok (.aload_n 0, 1) := by decide +kernel
theorem dX2_init_5 : decode cX2_init 5 = .ok (.iload_n 1, 1) := by decide +kernel
theorem dX2_init_6 : decode cX2_init 6 = .ok (.ifCond .ge 7, 3) := by decide +kernel
theorem dX2_init_9 : decode cX2_init 9 = .ok (.iconst 0, 1) := by decide +kernel
theorem dX2_init_10 : decode cX2_init 10 = .ok (.goto 4, 3) := by decide +kernel
theorem dX2_init_13 : decode cX2_init 13 = .ok (.iload_n 1, 1) := by decide +kernel
theorem dX2_init_14 : decode cX2_init 14 = .ok (.newarray .int, 2) := by decide +kernel
theorem dX2_init_16 : decode cX2_init 16 = .ok (.putfield 7, 3) := by decide +kernel
theorem dX2_init_19 : decode cX2_init 19 = .ok (.return_, 1) := by decide +kernel
theorem dX2_at_0 : decode cX2_at 0 = .ok (.iload_n 1, 1) := by decide +kernel
theorem dX2_at_1 : decode cX2_at 1 = .ok (.ifCond .lt 21, 3) := by decide +kernel
theorem dX2_at_4 : decode cX2_at 4 = .ok (.iload_n 1, 1) := by decide +kernel
theorem dX2_at_5 : decode cX2_at 5 = .ok (.aload_n 0, 1) := by decide +kernel
theorem dX2_at_6 : decode cX2_at 6 = .ok (.getfield 7, 3) := by decide +kernel
theorem dX2_at_9 : decode cX2_at 9 = .ok (.arraylength, 1) := by decide +kernel
theorem dX2_at_10 : decode cX2_at 10 = .ok (.if_icmp .ge 12, 3) := by decide +kernel
theorem dX2_at_13 : decode cX2_at 13 = .ok (.aload_n 0, 1) := by decide +kernel
theorem dX2_at_14 : decode cX2_at 14 = .ok (.getfield 7, 3) := by decide +kernel
theorem dX2_at_17 : decode cX2_at 17 = .ok (.iload_n 1, 1) := by decide +kernel
theorem dX2_at_18 : decode cX2_at 18 = .ok (.iaload, 1) := by decide +kernel
theorem dX2_at_19 : decode cX2_at 19 = .ok (.goto 4, 3) := by decide +kernel
theorem dX2_at_22 : decode cX2_at 22 = .ok (.iconst 0, 1) := by decide +kernel
theorem dX2_at_23 : decode cX2_at 23 = .ok (.ireturn, 1) := by decide +kernel
theorem dX2_put_0 : decode cX2_put 0 = .ok (.iload_n 1, 1) := by decide +kernel
theorem dX2_put_1 : decode cX2_put 1 = .ok (.ifCond .lt 19, 3) := by decide +kernel
theorem dX2_put_4 : decode cX2_put 4 = .ok (.iload_n 1, 1) := by decide +kernel
theorem dX2_put_5 : decode cX2_put 5 = .ok (.aload_n 0, 1) := by decide +kernel
theorem dX2_put_6 : decode cX2_put 6 = .ok (.getfield 7, 3) := by decide +kernel
theorem dX2_put_9 : decode cX2_put 9 = .ok (.arraylength, 1) := by decide +kernel
theorem dX2_put_10 : decode cX2_put 10 = .ok (.if_icmp .ge 10, 3) := by decide +kernel
theorem dX2_put_13 : decode cX2_put 13 = .ok (.aload_n 0, 1) := by decide +kernel
theorem dX2_put_14 : decode cX2_put 14 = .ok (.getfield 7, 3) := by decide +kernel
theorem dX2_put_17 : decode cX2_put 17 = .ok (.iload_n 1, 1) := by decide +kernel
theorem dX2_put_18 : decode cX2_put 18 = .ok (.iload_n 2, 1) := by decide +kernel
theorem dX2_put_19 : decode cX2_put 19 = .ok (.iastore, 1) := by decide +kernel
theorem dX2_put_20 : decode cX2_put 20 = .ok (.return_, 1) := by decide +kernel
theorem dX2_fill_0 : decode cX2_fill 0 = .ok (.iconst 0, 1) := by decide +kernel
theorem dX2_fill_1 : decode cX2_fill 1 = .ok (.istore_n 2, 1) := by decide +kernel
theorem dX2_fill_2 : decode cX2_fill 2 = .ok (.iload_n 2, 1) := by decide +kernel
theorem dX2_fill_3 : decode cX2_fill 3 = .ok (.aload_n 0, 1) := by decide +kernel
theorem dX2_fill_4 : decode cX2_fill 4 = .ok (.getfield 7, 3) := by decide +kernel
theorem dX2_fill_7 : decode cX2_fill 7 = .ok (.arraylength, 1) := by decide +kernel
theorem dX2_fill_8 : decode cX2_fill 8 = .ok (.if_icmp .ge 16, 3) := by decide +kernel
theorem dX2_fill_11 : decode cX2_fill 11 = .ok (.aload_n 0, 1) := by decide +kernel
theorem dX2_fill_12 : decode cX2_fill 12 = .ok (.getfield 7, 3) := by decide +kernel
theorem dX2_fill_15 : decode cX2_fill 15 = .ok (.iload_n 2, 1) := by decide +kernel
theorem dX2_fill_16 : decode cX2_fill 16 = .ok (.iload_n 1, 1) := by decide +kernel
theorem dX2_fill_17 : decode cX2_fill 17 = .ok (.iastore, 1) := by decide +kernel
theorem dX2_fill_18 : decode cX2_fill 18 = .ok (.iinc 2 1, 3) := by decide +kernel
theorem dX2_fill_21 : decode cX2_fill 21 = .ok (.goto (-19), 3) := by decide +kernel
theorem dX2_fill_24 : decode cX2_fill 24 = .ok (.return_, 1) := by decide +kernel
theorem dX2_copyFrom_0 : decode cX2_copyFrom 0 = .ok (.iconst 0, 1) := by decide +kernel
theorem dX2_copyFrom_1 : decode cX2_copyFrom 1 = .ok (.istore_n 2, 1) := by decide +kernel
theorem dX2_copyFrom_2 : decode cX2_copyFrom 2 = .ok (.iload_n 2, 1) := by decide +kernel
theorem dX2_copyFrom_3 : decode cX2_copyFrom 3 = .ok (.aload_n 0, 1) := by decide +kernel
theorem dX2_copyFrom_4 : decode cX2_copyFrom 4 = .ok (.getfield 7, 3) := by decide +kernel
theorem dX2_copyFrom_7 : decode cX2_copyFrom 7 = .ok (.arraylength, 1) := by decide +kernel
theorem dX2_copyFrom_8 : decode cX2_copyFrom 8 = .ok (.if_icmp .ge 20, 3) := by decide +kernel
theorem dX2_copyFrom_11 : decode cX2_copyFrom 11 = .ok (.aload_n 0, 1) := by decide +kernel
theorem dX2_copyFrom_12 : decode cX2_copyFrom 12 = .ok (.getfield 7, 3) := by decide +kernel
theorem dX2_copyFrom_15 : decode cX2_copyFrom 15 = .ok (.iload_n 2, 1) := by decide +kernel
theorem dX2_copyFrom_16 : decode cX2_copyFrom 16 = .ok (.aload_n 1, 1) := by decide +kernel
theorem dX2_copyFrom_17 : decode cX2_copyFrom 17 = .ok (.iload_n 2, 1) := by decide +kernel
theorem dX2_copyFrom_18 : decode cX2_copyFrom 18 = .ok (.invokevirtual 13, 3) := by decide +kernel
theorem dX2_copyFrom_21 : decode cX2_copyFrom 21 = .ok (.iastore, 1) := by decide +kernel
theorem dX2_copyFrom_22 : decode cX2_copyFrom 22 = .ok (.iinc 2 1, 3) := by decide +kernel
theorem dX2_copyFrom_25 : decode cX2_copyFrom 25 = .ok (.goto (-23), 3) := by decide +kernel
theorem dX2_copyFrom_28 : decode cX2_copyFrom 28 = .ok (.return_, 1) := by decide +kernel
theorem dX2_sum_0 : decode cX2_sum 0 = .ok (.iconst 0, 1) := by decide +kernel
theorem dX2_sum_1 : decode cX2_sum 1 = .ok (.istore_n 1, 1) := by decide +kernel
theorem dX2_sum_2 : decode cX2_sum 2 = .ok (.iconst 0, 1) := by decide +kernel
theorem dX2_sum_3 : decode cX2_sum 3 = .ok (.istore_n 2, 1) := by decide +kernel
theorem dX2_sum_4 : decode cX2_sum 4 = .ok (.iload_n 2, 1) := by decide +kernel
theorem dX2_sum_5 : decode cX2_sum 5 = .ok (.aload_n 0, 1) := by decide +kernel
theorem dX2_sum_6 : decode cX2_sum 6 = .ok (.getfield 7, 3) := by decide +kernel
theorem dX2_sum_9 : decode cX2_sum 9 = .ok (.arraylength, 1) := by decide +kernel
theorem dX2_sum_10 : decode cX2_sum 10 = .ok (.if_icmp .ge 18, 3) := by decide +kernel
theorem dX2_sum_13 : decode cX2_sum 13 = .ok (.iload_n 1, 1) := by decide +kernel
theorem dX2_sum_14 : decode cX2_sum 14 = .ok (.aload_n 0, 1) := by decide +kernel
theorem dX2_sum_15 : decode cX2_sum 15 = .ok (.getfield 7, 3) := by decide +kernel
theorem dX2_sum_18 : decode cX2_sum 18 = .ok (.iload_n 2, 1) := by decide +kernel
theorem dX2_sum_19 : decode cX2_sum 19 = .ok (.iaload, 1) := by decide +kernel
theorem dX2_sum_20 : decode cX2_sum 20 = .ok (.iadd, 1) := by decide +kernel
theorem dX2_sum_21 : decode cX2_sum 21 = .ok (.istore_n 1, 1) := by decide +kernel
theorem dX2_sum_22 : decode cX2_sum 22 = .ok (.iinc 2 1, 3) := by decide +kernel
theorem dX2_sum_25 : decode cX2_sum 25 = .ok (.goto (-21), 3) := by decide +kernel
theorem dX2_sum_28 : decode cX2_sum 28 = .ok (.iload_n 1, 1) := by decide +kernel
theorem dX2_sum_29 : decode cX2_sum 29 = .ok (.ireturn, 1) := by decide +kernel
theorem dX3_init_0 : decode cX3_init 0 = .ok (.aload_n 0, 1) := by decide +kernel
theorem dX3_init_1 : decode cX3_init 1 = .ok (.invokespecial 3, 3) := by decide +kernel
theorem dX3_init_4 : decode cX3_init 4 = .ok (.aload_n 0, 1) := by decide +kernel
theorem dX3_init_5 : decode cX3_init 5 = .ok (.new 9, 3) := by decide +kernel
theorem dX3_init_8 : decode cX3_init 8 = .ok (.dup, 1) := by decide +kernel
theorem dX3_init_9 : decode cX3_init 9 = .ok (.bipush 60, 2) := by decide +kernel
theorem dX3_init_11 : decode cX3_init 11 = .ok (.invokespecial 11, 3) := by decide +kernel
theorem dX3_init_14 : decode cX3_init 14 = .ok (.putfield 14, 3) := by decide +kernel
theorem dX3_init_17 : decode cX3_init 17 = .ok (.aload_n 0, 1) := by decide +kernel
theorem dX3_init_18 : decode cX3_init 18 = .ok (.iconst 0, 1) := by decide +kernel
theorem dX3_init_19 : decode cX3_init 19 = .ok (.putfield 20, 3) := by decide +kernel
theorem dX3_init_22 : decode cX3_init 22 = .ok (.aload_n 0, 1) := by decide +kernel
theorem dX3_init_23 : decode cX3_init 23 = .ok (.iconst 0, 1) := by decide +kernel
theorem dX3_init_24 : decode cX3_init 24 = .ok (.putfield 24, 3) := by decide +kernel
theorem dX3_init_27 : decode cX3_init 27 = .ok (.aload_n 0, 1) := by decide +kernel
theorem dX3_init_28 : decode cX3_init 28 = .ok (.iconst 0, 1) := by decide +kernel
theorem dX3_init_29 : decode cX3_init 29 = .ok (.putfield 27, 3) := by decide +kernel
theorem dX3_init_32 : decode cX3_init 32 = .ok (.return_, 1) := by decide +kernel
theorem dX3_add_0 : decode cX3_add 0 = .ok (.aload_n 0, 1) := by decide +kernel
theorem dX3_add_1 : decode cX3_add 1 = .ok (.getfield 14, 3) := by decide +kernel
theorem dX3_add_4 : decode cX3_add 4 = .ok (.aload_n 0, 1) := by decide +kernel
theorem dX3_add_5 : decode cX3_add 5 = .ok (.getfield 20, 3) := by decide +kernel
theorem dX3_add_8 : decode cX3_add 8 = .ok (.iload_n 1, 1) := by decide +kernel
theorem dX3_add_9 : decode cX3_add 9 = .ok (.invokevirtual 30, 3) := by decide +kernel
theorem dX3_add_12 : decode cX3_add 12 = .ok (.aload_n 0, 1) := by decide +kernel
theorem dX3_add_13 : decode cX3_add 13 = .ok (.dup, 1) := by decide +kernel
theorem dX3_add_14 : decode cX3_add 14 = .ok (.getfield 20, 3) := by decide +kernel
theorem dX3_add_17 : decode cX3_add 17 = .ok (.iconst 1, 1) := by decide +kernel
theorem dX3_add_18 : decode cX3_add 18 = .ok (.iadd, 1) := by decide +kernel
theorem dX3_add_19 : decode cX3_add 19 = .ok (.putfield 20, 3) := by decide +kernel
theorem dX3_add_22 : decode cX3_add 22 = .ok (.return_, 1) := by decide +kernel
theorem dX3_read_0 : decode cX3_read 0 = .ok (.aload_n 0, 1) := by decide +kernel
theorem dX3_read_1 : decode cX3_read 1 = .ok (.iconst 0, 1) := by decide +kernel
theorem dX3_read_2 : decode cX3_read 2 = .ok (.putfield 24, 3) := by decide +kernel
theorem dX3_read_5 : decode cX3_read 5 = .ok (.aload_n 0, 1) := by decide +kernel
theorem dX3_read_6 : decode cX3_read 6 = .ok (.iconst 1, 1) := by decide +kernel
theorem dX3_read_7 : decode cX3_read 7 = .ok (.putfield 27, 3) := by decide +kernel
theorem dX3_read_10 : decode cX3_read 10 = .ok (.iconst 0, 1) := by decide +kernel
theorem dX3_read_11 : decode cX3_read 11 = .ok (.istore_n 1, 1) := by decide +kernel
theorem dX3_read_12 : decode cX3_read 12 = .ok (.iconst 0, 1) := by decide +kernel
theorem dX3_read_13 : decode cX3_read 13 = .ok (.istore_n 2, 1) := by decide +kernel
theorem dX3_read_14 : decode cX3_read 14 = .ok (.iload_n 2, 1) := by decide +kernel
theorem dX3_read_15 : decode cX3_read 15 = .ok (.aload_n 0, 1) := by decide +kernel
theorem dX3_read_16 : decode cX3_read 16 = .ok (.getfield 20, 3) := by decide +kernel
theorem dX3_read_19 : decode cX3_read 19 = .ok (.if_icmp .ge 95, 3) := by decide +kernel
theorem dX3_read_22 : decode cX3_read 22 = .ok (.iload_n 2, 1) := by decide +kernel
theorem dX3_read_23 : decode cX3_read 23 = .ok (.bipush 60, 2) := by decide +kernel
theorem dX3_read_25 : decode cX3_read 25 = .ok (.if_icmp .ge 89, 3) := by decide +kernel
theorem dX3_read_28 : decode cX3_read 28 = .ok (.aload_n 0, 1) := by decide +kernel
theorem dX3_read_29 : decode cX3_read 29 = .ok (.getfield 14, 3) := by decide +kernel
theorem dX3_read_32 : decode cX3_read 32 = .ok (.iload_n 2, 1) := by decide +kernel
theorem dX3_read_33 : decode cX3_read 33 = .ok (.invokevirtual 34, 3) := by decide +kernel
theorem dX3_read_36 : decode cX3_read 36 = .ok (.invokestatic 38, 3) := by decide +kernel
theorem dX3_read_39 : decode cX3_read 39 = .ok (.ifCond .eq 17, 3) := by decide +kernel
theorem dX3_read_42 : decode cX3_read 42 = .ok (.iload_n 1, 1) := by decide +kernel
theorem dX3_read_43 : decode cX3_read 43 = .ok (.aload_n 0, 1) := by decide +kernel
theorem dX3_read_44 : decode cX3_read 44 = .ok (.invokevirtual 42, 3) := by decide +kernel
theorem dX3_read_47 : decode cX3_read 47 = .ok (.if_icmp .ge 9, 3) := by decide +kernel
theorem dX3_read_50 : decode cX3_read 50 = .ok (.iinc 1 1, 3) := by decide +kernel
theorem dX3_read_53 : decode cX3_read 53 = .ok (.goto 55, 3) := by decide +kernel
theorem dX3_read_56 : decode cX3_read 56 = .ok (.aload_n 0, 1) := by decide +kernel
theorem dX3_read_57 : decode cX3_read 57 = .ok (.getfield 14, 3) := by decide +kernel
theorem dX3_read_60 : decode cX3_read 60 = .ok (.iload_n 2, 1) := by decide +kernel
theorem dX3_read_61 : decode cX3_read 61 = .ok (.invokevirtual 34, 3) := by decide +kernel
theorem dX3_read_64 : decode cX3_read 64 = .ok (.bipush 47, 2) := by decide +kernel
theorem dX3_read_66 : decode cX3_read 66 = .ok (.if_icmp .ne 40, 3) := by decide +kernel
theorem dX3_read_69 : decode cX3_read 69 = .ok (.iload_n 1, 1) := by decide +kernel
theorem dX3_read_70 : decode cX3_read 70 = .ok (.aload_n 0, 1) := by decide +kernel
theorem dX3_read_71 : decode cX3_read 71 = .ok (.invokevirtual 46, 3) := by decide +kernel
theorem dX3_read_74 : decode cX3_read 74 = .ok (.if_icmp .lt 32, 3) := by decide +kernel
theorem dX3_read_77 : decode cX3_read 77 = .ok (.aload_n 0, 1) := by decide +kernel
theorem dX3_read_78 : decode cX3_read 78 = .ok (.getfield 27, 3) := by decide +kernel
theorem dX3_read_81 : decode cX3_read 81 = .ok (.bipush 7, 2) := by decide +kernel
theorem dX3_read_83 : decode cX3_read 83 = .ok (.if_icmp .ge 23, 3) := by decide +kernel
theorem dX3_read_86 : decode cX3_read 86 = .ok (.aload_n 0, 1) := by decide +kernel
theorem dX3_read_87 : decode cX3_read 87 = .ok (.iload_n 1, 1) := by decide +kernel
theorem dX3_read_88 : decode cX3_read 88 = .ok (.putfield 24, 3) := by decide +kernel
theorem dX3_read_91 : decode cX3_read 91 = .ok (.aload_n 0, 1) := by decide +kernel
theorem dX3_read_92 : decode cX3_read 92 = .ok (.dup, 1) := by decide +kernel
theorem dX3_read_93 : decode cX3_read 93 = .ok (.getfield 27, 3) := by decide +kernel
theorem dX3_read_96 : decode cX3_read 96 = .ok (.iconst 1, 1) := by decide +kernel
theorem dX3_read_97 : decode cX3_read 97 = .ok (.iadd, 1) := by decide +kernel
theorem dX3_read_98 : decode cX3_read 98 = .ok (.putfield 27, 3) := by decide +kernel
theorem dX3_read_101 : decode cX3_read 101 = .ok (.iconst 0, 1) := by decide +kernel
theorem dX3_read_102 : decode cX3_read 102 = .ok (.istore_n 1, 1) := by decide +kernel
theorem dX3_read_103 : decode cX3_read 103 = .ok (.goto 5, 3) := by decide +kernel
theorem dX3_read_106 : decode cX3_read 106 = .ok (.iload_n 2, 1) := by decide +kernel
theorem dX3_read_107 : decode cX3_read 107 = .ok (.ireturn, 1) := by decide +kernel
theorem dX3_read_108 : decode cX3_read 108 = .ok (.iinc 2 1, 3) := by decide +kernel
theorem dX3_read_111 : decode cX3_read 111 = .ok (.goto (-97), 3) := by decide +kernel
theorem dX3_read_114 : decode cX3_read 114 = .ok (.aload_n 0, 1) := by decide +kernel
theorem dX3_read_115 : decode cX3_read 115 = .ok (.getfield 27, 3) := by decide +kernel
theorem dX3_read_118 : decode cX3_read 118 = .ok (.iconst 2, 1) := by decide +kernel
theorem dX3_read_119 : decode cX3_read 119 = .ok (.if_icmp .lt 15, 3) := by decide +kernel
theorem dX3_read_122 : decode cX3_read 122 = .ok (.iload_n 1, 1) := by decide +kernel
theorem dX3_read_123 : decode cX3_read 123 = .ok (.aload_n 0, 1) := by decide +kernel
theorem dX3_read_124 : decode cX3_read 124 = .ok (.getfield 24, 3) := by decide +kernel
theorem dX3_read_127 : decode cX3_read 127 = .ok (.if_icmp .ne 7, 3) := by decide +kernel
theorem dX3_read_130 : decode cX3_read 130 = .ok (.iconst (-1), 1) := by decide +kernel
theorem dX3_read_131 : decode cX3_read 131 = .ok (.goto 7, 3) := by decide +kernel
theorem dX3_read_134 : decode cX3_read 134 = .ok (.aload_n 0, 1) := by decide +kernel
theorem dX3_read_135 : decode cX3_read 135 = .ok (.getfield 20, 3) := by decide +kernel
theorem dX3_read_138 : decode cX3_read 138 = .ok (.ireturn, 1) := by decide +kernel
theorem dX3_mostDigits_0 : decode cX3_mostDigits 0 = .ok (.aload_n 0, 1) := by decide +kernel
theorem dX3_mostDigits_1 : decode cX3_mostDigits 1 = .ok (.getfield 27, 3) := by decide +kernel
theorem dX3_mostDigits_4 : decode cX3_mostDigits 4 = .ok (.iconst 1, 1) := by decide +kernel
theorem dX3_mostDigits_5 : decode cX3_mostDigits 5 = .ok (.if_icmp .ne 8, 3) := by decide +kernel
theorem dX3_mostDigits_8 : decode cX3_mostDigits 8 = .ok (.bipush 7, 2) := by decide +kernel
theorem dX3_mostDigits_10 : decode cX3_mostDigits 10 = .ok (.goto 7, 3) := by decide +kernel
theorem dX3_mostDigits_13 : decode cX3_mostDigits 13 = .ok (.aload_n 0, 1) := by decide +kernel
theorem dX3_mostDigits_14 : decode cX3_mostDigits 14 = .ok (.getfield 24, 3) := by decide +kernel
theorem dX3_mostDigits_17 : decode cX3_mostDigits 17 = .ok (.ireturn, 1) := by decide +kernel
theorem dX3_leastDigits_0 : decode cX3_leastDigits 0 = .ok (.aload_n 0, 1) := by decide +kernel
theorem dX3_leastDigits_1 : decode cX3_leastDigits 1 = .ok (.getfield 27, 3) := by decide +kernel
theorem dX3_leastDigits_4 : decode cX3_leastDigits 4 = .ok (.iconst 1, 1) := by decide +kernel
theorem dX3_leastDigits_5 : decode cX3_leastDigits 5 = .ok (.if_icmp .ne 7, 3) := by decide +kernel
theorem dX3_leastDigits_8 : decode cX3_leastDigits 8 = .ok (.iconst 2, 1) := by decide +kernel
theorem dX3_leastDigits_9 : decode cX3_leastDigits 9 = .ok (.goto 7, 3) := by decide +kernel
theorem dX3_leastDigits_12 : decode cX3_leastDigits 12 = .ok (.aload_n 0, 1) := by decide +kernel
theorem dX3_leastDigits_13 : decode cX3_leastDigits 13 = .ok (.getfield 24, 3) := by decide +kernel
theorem dX3_leastDigits_16 : decode cX3_leastDigits 16 = .ok (.ireturn, 1) := by decide +kernel
theorem dX3_isDigit_0 : decode cX3_isDigit 0 = .ok (.iload_n 0, 1) := by decide +kernel
theorem dX3_isDigit_1 : decode cX3_isDigit 1 = .ok (.bipush 48, 2) := by decide +kernel
theorem dX3_isDigit_3 : decode cX3_isDigit 3 = .ok (.if_icmp .lt 13, 3) := by decide +kernel
theorem dX3_isDigit_6 : decode cX3_isDigit 6 = .ok (.iload_n 0, 1) := by decide +kernel
theorem dX3_isDigit_7 : decode cX3_isDigit 7 = .ok (.bipush 57, 2) := by decide +kernel
theorem dX3_isDigit_9 : decode cX3_isDigit 9 = .ok (.if_icmp .gt 7, 3) := by decide +kernel
theorem dX3_isDigit_12 : decode cX3_isDigit 12 = .ok (.iconst 1, 1) := by decide +kernel
theorem dX3_isDigit_13 : decode cX3_isDigit 13 = .ok (.goto 4, 3) := by decide +kernel
theorem dX3_isDigit_16 : decode cX3_isDigit 16 = .ok (.iconst 0, 1) := by decide +kernel
theorem dX3_isDigit_17 : decode cX3_isDigit 17 = .ok (.ireturn, 1) := by decide +kernel
theorem dX3_digitAt_0 : decode cX3_digitAt 0 = .ok (.aload_n 0, 1) := by decide +kernel
theorem dX3_digitAt_1 : decode cX3_digitAt 1 = .ok (.getfield 14, 3) := by decide +kernel
theorem dX3_digitAt_4 : decode cX3_digitAt 4 = .ok (.iload_n 1, 1) := by decide +kernel
theorem dX3_digitAt_5 : decode cX3_digitAt 5 = .ok (.aload_n 0, 1) := by decide +kernel
theorem dX3_digitAt_6 : decode cX3_digitAt 6 = .ok (.getfield 24, 3) := by decide +kernel
theorem dX3_digitAt_9 : decode cX3_digitAt 9 = .ok (.iconst 1, 1) := by decide +kernel
theorem dX3_digitAt_10 : decode cX3_digitAt 10 = .ok (.iadd, 1) := by decide +kernel
theorem dX3_digitAt_11 : decode cX3_digitAt 11 = .ok (.imul, 1) := by decide +kernel
theorem dX3_digitAt_12 : decode cX3_digitAt 12 = .ok (.iload_n 2, 1) := by decide +kernel
theorem dX3_digitAt_13 : decode cX3_digitAt 13 = .ok (.iadd, 1) := by decide +kernel
theorem dX3_digitAt_14 : decode cX3_digitAt 14 = .ok (.invokevirtual 34, 3) := by decide +kernel
theorem dX3_digitAt_17 : decode cX3_digitAt 17 = .ok (.bipush 48, 2) := by decide +kernel
theorem dX3_digitAt_19 : decode cX3_digitAt 19 = .ok (.isub, 1) := by decide +kernel
theorem dX3_digitAt_20 : decode cX3_digitAt 20 = .ok (.ireturn, 1) := by decide +kernel
theorem dX4_init_0 : decode cX4_init 0 = .ok (.aload_n 0, 1) := by decide +kernel
theorem dX4_init_1 : decode cX4_init 1 = .ok (.invokespecial 5, 3) := by decide +kernel
theorem dX4_init_4 : decode cX4_init 4 = .ok (.aload_n 0, 1) := by decide +kernel
theorem dX4_init_5 : decode cX4_init 5 = .ok (.new 11, 3) := by decide +kernel
theorem dX4_init_8 : decode cX4_init 8 = .ok (.dup, 1) := by decide +kernel
theorem dX4_init_9 : decode cX4_init 9 = .ok (.sipush 240, 3) := by decide +kernel
theorem dX4_init_12 : decode cX4_init 12 = .ok (.invokespecial 13, 3) := by decide +kernel
theorem dX4_init_15 : decode cX4_init 15 = .ok (.putfield 16, 3) := by decide +kernel
theorem dX4_init_18 : decode cX4_init 18 = .ok (.aload_n 0, 1) := by decide +kernel
theorem dX4_init_19 : decode cX4_init 19 = .ok (.new 11, 3) := by decide +kernel
theorem dX4_init_22 : decode cX4_init 22 = .ok (.dup, 1) := by decide +kernel
theorem dX4_init_23 : decode cX4_init 23 = .ok (.bipush 49, 2) := by decide +kernel
theorem dX4_init_25 : decode cX4_init 25 = .ok (.invokespecial 13, 3) := by decide +kernel
theorem dX4_init_28 : decode cX4_init 28 = .ok (.putfield 20, 3) := by decide +kernel
theorem dX4_init_31 : decode cX4_init 31 = .ok (.aload_n 0, 1) := by decide +kernel
theorem dX4_init_32 : decode cX4_init 32 = .ok (.iconst 0, 1) := by decide +kernel
theorem dX4_init_33 : decode cX4_init 33 = .ok (.putfield 23, 3) := by decide +kernel
theorem dX4_init_36 : decode cX4_init 36 = .ok (.aload_n 0, 1) := by decide +kernel
theorem dX4_init_37 : decode cX4_init 37 = .ok (.new 11, 3) := by decide +kernel
theorem dX4_init_40 : decode cX4_init 40 = .ok (.dup, 1) := by decide +kernel
theorem dX4_init_41 : decode cX4_init 41 = .ok (.sipush 240, 3) := by decide +kernel
theorem dX4_init_44 : decode cX4_init 44 = .ok (.invokespecial 13, 3) := by decide +kernel
theorem dX4_init_47 : decode cX4_init 47 = .ok (.putfield 27, 3) := by decide +kernel
theorem dX4_init_50 : decode cX4_init 50 = .ok (.aload_n 0, 1) := by decide +kernel
theorem dX4_init_51 : decode cX4_init 51 = .ok (.new 11, 3) := by decide +kernel
theorem dX4_init_54 : decode cX4_init 54 = .ok (.dup, 1) := by decide +kernel
theorem dX4_init_55 : decode cX4_init 55 = .ok (.sipush 240, 3) := by decide +kernel
theorem dX4_init_58 : decode cX4_init 58 = .ok (.invokespecial 13, 3) := by decide +kernel
theorem dX4_init_61 : decode cX4_init 61 = .ok (.putfield 30, 3) := by decide +kernel
theorem dX4_init_64 : decode cX4_init 64 = .ok (.return_, 1) := by decide +kernel
theorem dX4_search_0 : decode cX4_search 0 = .ok (.aload_n 0, 1) := by decide +kernel
theorem dX4_search_1 : decode cX4_search 1 = .ok (.aload_n 2, 1) := by decide +kernel
theorem dX4_search_2 : decode cX4_search 2 = .ok (.iload_n 3, 1) := by decide +kernel
theorem dX4_search_3 : decode cX4_search 3 = .ok (.invokevirtual 33, 3) := by decide +kernel
theorem dX4_search_6 : decode cX4_search 6 = .ok (.aload_n 0, 1) := by decide +kernel
theorem dX4_search_7 : decode cX4_search 7 = .ok (.getfield 27, 3) := by decide +kernel
theorem dX4_search_10 : decode cX4_search 10 = .ok (.iconst (-1), 1) := by decide +kernel
theorem dX4_search_11 : decode cX4_search 11 = .ok (.invokevirtual 37, 3) := by decide +kernel
theorem dX4_search_14 : decode cX4_search 14 = .ok (.aload_n 0, 1) := by decide +kernel
theorem dX4_search_15 : decode cX4_search 15 = .ok (.getfield 27, 3) := by decide +kernel
theorem dX4_search_18 : decode cX4_search 18 = .ok (.bipush 112, 2) := by decide +kernel
theorem dX4_search_20 : decode cX4_search 20 = .ok (.iconst 4, 1) := by decide +kernel
theorem dX4_search_21 : decode cX4_search 21 = .ok (.invokevirtual 40, 3) := by decide +kernel
theorem dX4_search_24 : decode cX4_search 24 = .ok (.aload_n 0, 1) := by decide +kernel
theorem dX4_search_25 : decode cX4_search 25 = .ok (.getfield 30, 3) := by decide +kernel
theorem dX4_search_28 : decode cX4_search 28 = .ok (.iconst 0, 1) := by decide +kernel
theorem dX4_search_29 : decode cX4_search 29 = .ok (.bipush 112, 2) := by decide +kernel
theorem dX4_search_31 : decode cX4_search 31 = .ok (.invokevirtual 40, 3) := by decide +kernel
theorem dX4_search_34 : decode cX4_search 34 = .ok (.iconst 1, 1) := by decide +kernel
theorem dX4_search_35 : decode cX4_search 35 = .ok (.istore 4, 2) := by decide +kernel
theorem dX4_search_37 : decode cX4_search 37 = .ok (.iconst 0, 1) := by decide +kernel
theorem dX4_search_38 : decode cX4_search 38 = .ok (.istore 5, 2) := by decide +kernel
theorem dX4_search_40 : decode cX4_search 40 = .ok (.iload 5, 2) := by decide +kernel
theorem dX4_search_42 : decode cX4_search 42 = .ok (.iload 4, 2) := by decide +kernel
theorem dX4_search_44 : decode cX4_search 44 = .ok (.if_icmp .ge 124, 3) := by decide +kernel
theorem dX4_search_47 : decode cX4_search 47 = .ok (.iload 5, 2) := by decide +kernel
theorem dX4_search_49 : decode cX4_search 49 = .ok (.sipush 240, 3) := by decide +kernel
theorem dX4_search_52 : decode cX4_search 52 = .ok (.if_icmp .ge 116, 3) := by decide +kernel
theorem dX4_search_55 : decode cX4_search 55 = .ok (.iconst 0, 1) := by decide +kernel
theorem dX4_search_56 : decode cX4_search 56 = .ok (.istore 6, 2) := by decide +kernel
theorem dX4_search_58 : decode cX4_search 58 = .ok (.iload 6, 2) := by decide +kernel
theorem dX4_search_60 : decode cX4_search 60 = .ok (.iconst 4, 1) := by decide +kernel
theorem dX4_search_61 : decode cX4_search 61 = .ok (.if_icmp .ge 101, 3) := by decide +kernel
theorem dX4_search_64 : decode cX4_search 64 = .ok (.aload_n 0, 1) := by decide +kernel
theorem dX4_search_65 : decode cX4_search 65 = .ok (.getfield 30, 3) := by decide +kernel
theorem dX4_search_68 : decode cX4_search 68 = .ok (.iload 5, 2) := by decide +kernel
theorem dX4_search_70 : decode cX4_search 70 = .ok (.invokevirtual 44, 3) := by decide +kernel
theorem dX4_search_73 : decode cX4_search 73 = .ok (.iload 6, 2) := by decide +kernel
theorem dX4_search_75 : decode cX4_search 75 = .ok (.invokestatic 48, 3) := by decide +kernel
theorem dX4_search_78 : decode cX4_search 78 = .ok (.iadd, 1) := by decide +kernel
theorem dX4_search_79 : decode cX4_search 79 = .ok (.istore 7, 2) := by decide +kernel
theorem dX4_search_81 : decode cX4_search 81 = .ok (.aload_n 0, 1) := by decide +kernel
theorem dX4_search_82 : decode cX4_search 82 = .ok (.getfield 27, 3) := by decide +kernel
theorem dX4_search_85 : decode cX4_search 85 = .ok (.iload 7, 2) := by decide +kernel
theorem dX4_search_87 : decode cX4_search 87 = .ok (.invokevirtual 44, 3) := by decide +kernel
theorem dX4_search_90 : decode cX4_search 90 = .ok (.iconst (-1), 1) := by decide +kernel
theorem dX4_search_91 : decode cX4_search 91 = .ok (.if_icmp .ne 65, 3) := by decide +kernel
theorem dX4_search_94 : decode cX4_search 94 = .ok (.aload_n 0, 1) := by decide +kernel
theorem dX4_search_95 : decode cX4_search 95 = .ok (.aload_n 1, 1) := by decide +kernel
theorem dX4_search_96 : decode cX4_search 96 = .ok (.aload_n 2, 1) := by decide +kernel
theorem dX4_search_97 : decode cX4_search 97 = .ok (.iload_n 3, 1) := by decide +kernel
theorem dX4_search_98 : decode cX4_search 98 = .ok (.iload 7, 2) := by decide +kernel
theorem dX4_search_100 : decode cX4_search 100 = .ok (.invokevirtual 51, 3) := by decide +kernel
theorem dX4_search_103 : decode cX4_search 103 = .ok (.ifCond .eq 53, 3) := by decide +kernel
theorem dX4_search_106 : decode cX4_search 106 = .ok (.aload_n 0, 1) := by decide +kernel
theorem dX4_search_107 : decode cX4_search 107 = .ok (.getfield 27, 3) := by decide +kernel
theorem dX4_search_110 : decode cX4_search 110 = .ok (.iload 7, 2) := by decide +kernel
theorem dX4_search_112 : decode cX4_search 112 = .ok (.iload 6, 2) := by decide +kernel
theorem dX4_search_114 : decode cX4_search 114 = .ok (.invokevirtual 40, 3) := by decide +kernel
theorem dX4_search_117 : decode cX4_search 117 = .ok (.aload_n 1, 1) := by decide +kernel
theorem dX4_search_118 : decode cX4_search 118 = .ok (.iload_n 3, 1) := by decide +kernel
theorem dX4_search_119 : decode cX4_search 119 = .ok (.invokevirtual 55, 3) := by decide +kernel
theorem dX4_search_122 : decode cX4_search 122 = .ok (.iload 7, 2) := by decide +kernel
theorem dX4_search_124 : decode cX4_search 124 = .ok (.invokestatic 60, 3) := by decide +kernel
theorem dX4_search_127 : decode cX4_search 127 = .ok (.iadd, 1) := by decide +kernel
theorem dX4_search_128 : decode cX4_search 128 = .ok (.aload_n 1, 1) := by decide +kernel
theorem dX4_search_129 : decode cX4_search 129 = .ok (.getfield 63, 3) := by decide +kernel
theorem dX4_search_132 : decode cX4_search 132 = .ok (.if_icmp .lt 10, 3) := by decide +kernel
theorem dX4_search_135 : decode cX4_search 135 = .ok (.aload_n 0, 1) := by decide +kernel
theorem dX4_search_136 : decode cX4_search 136 = .ok (.iload 7, 2) := by decide +kernel
theorem dX4_search_138 : decode cX4_search 138 = .ok (.invokevirtual 66, 3) := by decide +kernel
theorem dX4_search_141 : decode cX4_search 141 = .ok (.ireturn, 1) := by decide +kernel
theorem dX4_search_142 : decode cX4_search 142 = .ok (.aload_n 0, 1) := by decide +kernel
theorem dX4_search_143 : decode cX4_search 143 = .ok (.getfield 30, 3) := by decide +kernel
theorem dX4_search_146 : decode cX4_search 146 = .ok (.iload 4, 2) := by decide +kernel
theorem dX4_search_148 : decode cX4_search 148 = .ok (.iload 7, 2) := by decide +kernel
theorem dX4_search_150 : decode cX4_search 150 = .ok (.invokevirtual 40, 3) := by decide +kernel
theorem dX4_search_153 : decode cX4_search 153 = .ok (.iinc 4 1, 3) := by decide +kernel
theorem dX4_search_156 : decode cX4_search 156 = .ok (.iinc 6 1, 3) := by decide +kernel
theorem dX4_search_159 : decode cX4_search 159 = .ok (.goto (-101), 3) := by decide +kernel
theorem dX4_search_162 : decode cX4_search 162 = .ok (.iinc 5 1, 3) := by decide +kernel
theorem dX4_search_165 : decode cX4_search 165 = .ok (.goto (-125), 3) := by decide +kernel
theorem dX4_search_168 : decode cX4_search 168 = .ok (.iconst (-1), 1) := by decide +kernel
theorem dX4_search_169 : decode cX4_search 169 = .ok (.ireturn, 1) := by decide +kernel
theorem dX4_gatherCells_0 : decode cX4_gatherCells 0 = .ok (.aload_n 0, 1) := by decide +kernel
theorem dX4_gatherCells_1 : decode cX4_gatherCells 1 = .ok (.iconst 0, 1) := by decide +kernel
theorem dX4_gatherCells_2 : decode cX4_gatherCells 2 = .ok (.putfield 23, 3) := by decide +kernel
theorem dX4_gatherCells_5 : decode cX4_gatherCells 5 = .ok (.iconst 0, 1) := by decide +kernel
theorem dX4_gatherCells_6 : decode cX4_gatherCells 6 = .ok (.istore_n 3, 1) := by decide +kernel
theorem dX4_gatherCells_7 : decode cX4_gatherCells 7 = .ok (.iload_n 3, 1) := by decide +kernel
theorem dX4_gatherCells_8 : decode cX4_gatherCells 8 = .ok (.bipush 49, 2) := by decide +kernel
theorem dX4_gatherCells_10 : decode cX4_gatherCells 10 = .ok (.if_icmp .ge 40, 3) := by decide +kernel
theorem dX4_gatherCells_13 : decode cX4_gatherCells 13 = .ok (.aload_n 1, 1) := by decide +kernel
theorem dX4_gatherCells_14 : decode cX4_gatherCells 14 = .ok (.iload_n 3, 1) := by decide +kernel
theorem dX4_gatherCells_15 : decode cX4_gatherCells 15 = .ok (.invokevirtual 69, 3) := by decide +kernel
theorem dX4_gatherCells_18 : decode cX4_gatherCells 18 = .ok (.iload_n 2, 1) := by decide +kernel
theorem dX4_gatherCells_19 : decode cX4_gatherCells 19 = .ok (.if_icmp .ne 25, 3) := by decide +kernel
theorem dX4_gatherCells_22 : decode cX4_gatherCells 22 = .ok (.aload_n 0, 1) := by decide +kernel
theorem dX4_gatherCells_23 : decode cX4_gatherCells 23 = .ok (.getfield 20, 3) := by decide +kernel
theorem dX4_gatherCells_26 : decode cX4_gatherCells 26 = .ok (.aload_n 0, 1) := by decide +kernel
theorem dX4_gatherCells_27 : decode cX4_gatherCells 27 = .ok (.getfield 23, 3) := by decide +kernel
theorem dX4_gatherCells_30 : decode cX4_gatherCells 30 = .ok (.iload_n 3, 1) := by decide +kernel
theorem dX4_gatherCells_31 : decode cX4_gatherCells 31 = .ok (.invokevirtual 40, 3) := by decide +kernel
theorem dX4_gatherCells_34 : decode cX4_gatherCells 34 = .ok (.aload_n 0, 1) := by decide +kernel
theorem dX4_gatherCells_35 : decode cX4_gatherCells 35 = .ok (.dup, 1) := by decide +kernel
theorem dX4_gatherCells_36 : decode cX4_gatherCells 36 = .ok (.getfield 23, 3) := by decide +kernel
theorem dX4_gatherCells_39 : decode cX4_gatherCells 39 = .ok (.iconst 1, 1) := by decide +kernel
theorem dX4_gatherCells_40 : decode cX4_gatherCells 40 = .ok (.iadd, 1) := by decide +kernel
theorem dX4_gatherCells_41 : decode cX4_gatherCells 41 = .ok (.putfield 23, 3) := by decide +kernel
theorem dX4_gatherCells_44 : decode cX4_gatherCells 44 = .ok (.iinc 3 1, 3) := by decide +kernel
theorem dX4_gatherCells_47 : decode cX4_gatherCells 47 = .ok (.goto (-40), 3) := by decide +kernel
theorem dX4_gatherCells_50 : decode cX4_gatherCells 50 = .ok (.return_, 1) := by decide +kernel
theorem dX4_canLie_0 : decode cX4_canLie 0 = .ok (.iload 4, 2) := by decide +kernel
theorem dX4_canLie_2 : decode cX4_canLie 2 = .ok (.invokestatic 60, 3) := by decide +kernel
theorem dX4_canLie_5 : decode cX4_canLie 5 = .ok (.istore 5, 2) := by decide +kernel
theorem dX4_canLie_7 : decode cX4_canLie 7 = .ok (.iload 4, 2) := by decide +kernel
theorem dX4_canLie_9 : decode cX4_canLie 9 = .ok (.invokestatic 74, 3) := by decide +kernel
theorem dX4_canLie_12 : decode cX4_canLie 12 = .ok (.istore 6, 2) := by decide +kernel
theorem dX4_canLie_14 : decode cX4_canLie 14 = .ok (.iconst 0, 1) := by decide +kernel
theorem dX4_canLie_15 : decode cX4_canLie 15 = .ok (.istore 7, 2) := by decide +kernel
theorem dX4_canLie_17 : decode cX4_canLie 17 = .ok (.iload 7, 2) := by decide +kernel
theorem dX4_canLie_19 : decode cX4_canLie 19 = .ok (.aload_n 0, 1) := by decide +kernel
theorem dX4_canLie_20 : decode cX4_canLie 20 = .ok (.getfield 23, 3) := by decide +kernel
theorem dX4_canLie_23 : decode cX4_canLie 23 = .ok (.if_icmp .ge 108, 3) := by decide +kernel
theorem dX4_canLie_26 : decode cX4_canLie 26 = .ok (.aload_n 1, 1) := by decide +kernel
theorem dX4_canLie_27 : decode cX4_canLie 27 = .ok (.aload_n 0, 1) := by decide +kernel
theorem dX4_canLie_28 : decode cX4_canLie 28 = .ok (.getfield 20, 3) := by decide +kernel
theorem dX4_canLie_31 : decode cX4_canLie 31 = .ok (.iload 7, 2) := by decide +kernel
theorem dX4_canLie_33 : decode cX4_canLie 33 = .ok (.invokevirtual 44, 3) := by decide +kernel
theorem dX4_canLie_36 : decode cX4_canLie 36 = .ok (.invokevirtual 55, 3) := by decide +kernel
theorem dX4_canLie_39 : decode cX4_canLie 39 = .ok (.iload 5, 2) := by decide +kernel
theorem dX4_canLie_41 : decode cX4_canLie 41 = .ok (.iadd, 1) := by decide +kernel
theorem dX4_canLie_42 : decode cX4_canLie 42 = .ok (.istore 8, 2) := by decide +kernel
theorem dX4_canLie_44 : decode cX4_canLie 44 = .ok (.aload_n 1, 1) := by decide +kernel
theorem dX4_canLie_45 : decode cX4_canLie 45 = .ok (.aload_n 0, 1) := by decide +kernel
theorem dX4_canLie_46 : decode cX4_canLie 46 = .ok (.getfield 20, 3) := by decide +kernel
theorem dX4_canLie_49 : decode cX4_canLie 49 = .ok (.iload 7, 2) := by decide +kernel
theorem dX4_canLie_51 : decode cX4_canLie 51 = .ok (.invokevirtual 44, 3) := by decide +kernel
theorem dX4_canLie_54 : decode cX4_canLie 54 = .ok (.invokevirtual 77, 3) := by decide +kernel
theorem dX4_canLie_57 : decode cX4_canLie 57 = .ok (.iload 6, 2) := by decide +kernel
theorem dX4_canLie_59 : decode cX4_canLie 59 = .ok (.iadd, 1) := by decide +kernel
theorem dX4_canLie_60 : decode cX4_canLie 60 = .ok (.istore 9, 2) := by decide +kernel
theorem dX4_canLie_62 : decode cX4_canLie 62 = .ok (.iload 8, 2) := by decide +kernel
theorem dX4_canLie_64 : decode cX4_canLie 64 = .ok (.ifCond .lt 17, 3) := by decide +kernel
theorem dX4_canLie_67 : decode cX4_canLie 67 = .ok (.iload 9, 2) := by decide +kernel
theorem dX4_canLie_69 : decode cX4_canLie 69 = .ok (.ifCond .lt 12, 3) := by decide +kernel
theorem dX4_canLie_72 : decode cX4_canLie 72 = .ok (.iload 9, 2) := by decide +kernel
theorem dX4_canLie_74 : decode cX4_canLie 74 = .ok (.aload_n 1, 1) := by decide +kernel
theorem dX4_canLie_75 : decode cX4_canLie 75 = .ok (.getfield 80, 3) := by decide +kernel
theorem dX4_canLie_78 : decode cX4_canLie 78 = .ok (.if_icmp .lt 5, 3) := by decide +kernel
theorem dX4_canLie_81 : decode cX4_canLie 81 = .ok (.iconst 0, 1) := by decide +kernel
theorem dX4_canLie_82 : decode cX4_canLie 82 = .ok (.ireturn, 1) := by decide +kernel
theorem dX4_canLie_83 : decode cX4_canLie 83 = .ok (.iload 8, 2) := by decide +kernel
theorem dX4_canLie_85 : decode cX4_canLie 85 = .ok (.aload_n 1, 1) := by decide +kernel
theorem dX4_canLie_86 : decode cX4_canLie 86 = .ok (.getfield 80, 3) := by decide +kernel
theorem dX4_canLie_89 : decode cX4_canLie 89 = .ok (.imul, 1) := by decide +kernel
theorem dX4_canLie_90 : decode cX4_canLie 90 = .ok (.iload 9, 2) := by decide +kernel
theorem dX4_canLie_92 : decode cX4_canLie 92 = .ok (.iadd, 1) := by decide +kernel
theorem dX4_canLie_93 : decode cX4_canLie 93 = .ok (.istore 10, 2) := by decide +kernel
theorem dX4_canLie_95 : decode cX4_canLie 95 = .ok (.iload 8, 2) := by decide +kernel
theorem dX4_canLie_97 : decode cX4_canLie 97 = .ok (.aload_n 1, 1) := by decide +kernel
theorem dX4_canLie_98 : decode cX4_canLie 98 = .ok (.getfield 63, 3) := by decide +kernel
theorem dX4_canLie_101 : decode cX4_canLie 101 = .ok (.if_icmp .ge 24, 3) := by decide +kernel
theorem dX4_canLie_104 : decode cX4_canLie 104 = .ok (.aload_n 1, 1) := by decide +kernel
theorem dX4_canLie_105 : decode cX4_canLie 105 = .ok (.iload 10, 2) := by decide +kernel
theorem dX4_canLie_107 : decode cX4_canLie 107 = .ok (.invokevirtual 83, 3) := by decide +kernel
theorem dX4_canLie_110 : decode cX4_canLie 110 = .ok (.ifCond .eq 15, 3) := by decide +kernel
theorem dX4_canLie_113 : decode cX4_canLie 113 = .ok (.aload_n 2, 1) := by decide +kernel
theorem dX4_canLie_114 : decode cX4_canLie 114 = .ok (.iload 10, 2) := by decide +kernel
theorem dX4_canLie_116 : decode cX4_canLie 116 = .ok (.invokevirtual 69, 3) := by decide +kernel
theorem dX4_canLie_119 : decode cX4_canLie 119 = .ok (.iload_n 3, 1) := by decide +kernel
theorem dX4_canLie_120 : decode cX4_canLie 120 = .ok (.if_icmp .eq 5, 3) := by decide +kernel
theorem dX4_canLie_123 : decode cX4_canLie 123 = .ok (.iconst 0, 1) := by decide +kernel
theorem dX4_canLie_124 : decode cX4_canLie 124 = .ok (.ireturn, 1) := by decide +kernel
theorem dX4_canLie_125 : decode cX4_canLie 125 = .ok (.iinc 7 1, 3) := by decide +kernel
theorem dX4_canLie_128 : decode cX4_canLie 128 = .ok (.goto (-111), 3) := by decide +kernel
theorem dX4_canLie_131 : decode cX4_canLie 131 = .ok (.iconst 1, 1) := by decide +kernel
theorem dX4_canLie_132 : decode cX4_canLie 132 = .ok (.ireturn, 1) := by decide +kernel
theorem dX4_traceBack_0 : decode cX4_traceBack 0 = .ok (.iconst 0, 1) := by decide +kernel
theorem dX4_traceBack_1 : decode cX4_traceBack 1 = .ok (.istore_n 2, 1) := by decide +kernel
theorem dX4_traceBack_2 : decode cX4_traceBack 2 = .ok (.iload_n 1, 1) := by decide +kernel
theorem dX4_traceBack_3 : decode cX4_traceBack 3 = .ok (.istore_n 3, 1) := by decide +kernel
theorem dX4_traceBack_4 : decode cX4_traceBack 4 = .ok (.iconst 0, 1) := by decide +kernel
theorem dX4_traceBack_5 : decode cX4_traceBack 5 = .ok (.istore 4, 2) := by decide +kernel
theorem dX4_traceBack_7 : decode cX4_traceBack 7 = .ok (.iload 4, 2) := by decide +kernel
theorem dX4_traceBack_9 : decode cX4_traceBack 9 = .ok (.sipush 240, 3) := by decide +kernel
theorem dX4_traceBack_12 : decode cX4_traceBack 12 = .ok (.if_icmp .ge 32, 3) := by decide +kernel
theorem dX4_traceBack_15 : decode cX4_traceBack 15 = .ok (.iload_n 3, 1) := by decide +kernel
theorem dX4_traceBack_16 : decode cX4_traceBack 16 = .ok (.bipush 112, 2) := by decide +kernel
theorem dX4_traceBack_18 : decode cX4_traceBack 18 = .ok (.if_icmp .eq 26, 3) := by decide +kernel
theorem dX4_traceBack_21 : decode cX4_traceBack 21 = .ok (.iinc 2 1, 3) := by decide +kernel
theorem dX4_traceBack_24 : decode cX4_traceBack 24 = .ok (.iload_n 3, 1) := by decide +kernel
theorem dX4_traceBack_25 : decode cX4_traceBack 25 = .ok (.aload_n 0, 1) := by decide +kernel
theorem dX4_traceBack_26 : decode cX4_traceBack 26 = .ok (.getfield 27, 3) := by decide +kernel
theorem dX4_traceBack_29 : decode cX4_traceBack 29 = .ok (.iload_n 3, 1) := by decide +kernel
theorem dX4_traceBack_30 : decode cX4_traceBack 30 = .ok (.invokevirtual 44, 3) := by decide +kernel
theorem dX4_traceBack_33 : decode cX4_traceBack 33 = .ok (.invokestatic 48, 3) := by decide +kernel
theorem dX4_traceBack_36 : decode cX4_traceBack 36 = .ok (.isub, 1) := by decide +kernel
theorem dX4_traceBack_37 : decode cX4_traceBack 37 = .ok (.istore_n 3, 1) := by decide +kernel
theorem dX4_traceBack_38 : decode cX4_traceBack 38 = .ok (.iinc 4 1, 3) := by decide +kernel
theorem dX4_traceBack_41 : decode cX4_traceBack 41 = .ok (.goto (-34), 3) := by decide +kernel
theorem dX4_traceBack_44 : decode cX4_traceBack 44 = .ok (.iload_n 1, 1) := by decide +kernel
theorem dX4_traceBack_45 : decode cX4_traceBack 45 = .ok (.istore_n 3, 1) := by decide +kernel
theorem dX4_traceBack_46 : decode cX4_traceBack 46 = .ok (.iload_n 2, 1) := by decide +kernel
theorem dX4_traceBack_47 : decode cX4_traceBack 47 = .ok (.iconst 1, 1) := by decide +kernel
theorem dX4_traceBack_48 : decode cX4_traceBack 48 = .ok (.isub, 1) := by decide +kernel
theorem dX4_traceBack_49 : decode cX4_traceBack 49 = .ok (.istore 4, 2) := by decide +kernel
theorem dX4_traceBack_51 : decode cX4_traceBack 51 = .ok (.iload 4, 2) := by decide +kernel
theorem dX4_traceBack_53 : decode cX4_traceBack 53 = .ok (.ifCond .lt 40, 3) := by decide +kernel
theorem dX4_traceBack_56 : decode cX4_traceBack 56 = .ok (.aload_n 0, 1) := by decide +kernel
theorem dX4_traceBack_57 : decode cX4_traceBack 57 = .ok (.getfield 16, 3) := by decide +kernel
theorem dX4_traceBack_60 : decode cX4_traceBack 60 = .ok (.iload 4, 2) := by decide +kernel
theorem dX4_traceBack_62 : decode cX4_traceBack 62 = .ok (.aload_n 0, 1) := by decide +kernel
theorem dX4_traceBack_63 : decode cX4_traceBack 63 = .ok (.getfield 27, 3) := by decide +kernel
theorem dX4_traceBack_66 : decode cX4_traceBack 66 = .ok (.iload_n 3, 1) := by decide +kernel
theorem dX4_traceBack_67 : decode cX4_traceBack 67 = .ok (.invokevirtual 44, 3) := by decide +kernel
theorem dX4_traceBack_70 : decode cX4_traceBack 70 = .ok (.invokevirtual 40, 3) := by decide +kernel
theorem dX4_traceBack_73 : decode cX4_traceBack 73 = .ok (.iload_n 3, 1) := by decide +kernel
theorem dX4_traceBack_74 : decode cX4_traceBack 74 = .ok (.aload_n 0, 1) := by decide +kernel
theorem dX4_traceBack_75 : decode cX4_traceBack 75 = .ok (.getfield 27, 3) := by decide +kernel
theorem dX4_traceBack_78 : decode cX4_traceBack 78 = .ok (.iload_n 3, 1) := by decide +kernel
theorem dX4_traceBack_79 : decode cX4_traceBack 79 = .ok (.invokevirtual 44, 3) := by decide +kernel
theorem dX4_traceBack_82 : decode cX4_traceBack 82 = .ok (.invokestatic 48, 3) := by decide +kernel
theorem dX4_traceBack_85 : decode cX4_traceBack 85 = .ok (.isub, 1) := by decide +kernel
theorem dX4_traceBack_86 : decode cX4_traceBack 86 = .ok (.istore_n 3, 1) := by decide +kernel
theorem dX4_traceBack_87 : decode cX4_traceBack 87 = .ok (.iinc 4 (-1), 3) := by decide +kernel
theorem dX4_traceBack_90 : decode cX4_traceBack 90 = .ok (.goto (-39), 3) := by decide +kernel
theorem dX4_traceBack_93 : decode cX4_traceBack 93 = .ok (.iload_n 2, 1) := by decide +kernel
theorem dX4_traceBack_94 : decode cX4_traceBack 94 = .ok (.ireturn, 1) := by decide +kernel
theorem dX4_stepOf_0 : decode cX4_stepOf 0 = .ok (.iload_n 0, 1) := by decide +kernel
theorem dX4_stepOf_1 : decode cX4_stepOf 1 = .ok (.tableswitch 41 0 3 #[31, 33, 35, 38], 31) := by decide +kernel
theorem dX4_stepOf_32 : decode cX4_stepOf 32 = .ok (.iconst (-1), 1) := by decide +kernel
theorem dX4_stepOf_33 : decode cX4_stepOf 33 = .ok (.ireturn, 1) := by decide +kernel
theorem dX4_stepOf_34 : decode cX4_stepOf 34 = .ok (.iconst 1, 1) := by decide +kernel
theorem dX4_stepOf_35 : decode cX4_stepOf 35 = .ok (.ireturn, 1) := by decide +kernel
theorem dX4_stepOf_36 : decode cX4_stepOf 36 = .ok (.bipush (-15), 2) := by decide +kernel
theorem dX4_stepOf_38 : decode cX4_stepOf 38 = .ok (.ireturn, 1) := by decide +kernel
theorem dX4_stepOf_39 : decode cX4_stepOf 39 = .ok (.bipush 15, 2) := by decide +kernel
theorem dX4_stepOf_41 : decode cX4_stepOf 41 = .ok (.ireturn, 1) := by decide +kernel
theorem dX4_stepOf_42 : decode cX4_stepOf 42 = .ok (.iconst 0, 1) := by decide +kernel
theorem dX4_stepOf_43 : decode cX4_stepOf 43 = .ok (.ireturn, 1) := by decide +kernel
theorem dX4_downAt_0 : decode cX4_downAt 0 = .ok (.iload_n 0, 1) := by decide +kernel
theorem dX4_downAt_1 : decode cX4_downAt 1 = .ok (.bipush 15, 2) := by decide +kernel
theorem dX4_downAt_3 : decode cX4_downAt 3 = .ok (.idiv, 1) := by decide +kernel
theorem dX4_downAt_4 : decode cX4_downAt 4 = .ok (.bipush 7, 2) := by decide +kernel
theorem dX4_downAt_6 : decode cX4_downAt 6 = .ok (.isub, 1) := by decide +kernel
theorem dX4_downAt_7 : decode cX4_downAt 7 = .ok (.ireturn, 1) := by decide +kernel
theorem dX4_rightAt_0 : decode cX4_rightAt 0 = .ok (.iload_n 0, 1) := by decide +kernel
theorem dX4_rightAt_1 : decode cX4_rightAt 1 = .ok (.bipush 15, 2) := by decide +kernel
theorem dX4_rightAt_3 : decode cX4_rightAt 3 = .ok (.irem, 1) := by decide +kernel
theorem dX4_rightAt_4 : decode cX4_rightAt 4 = .ok (.bipush 7, 2) := by decide +kernel
theorem dX4_rightAt_6 : decode cX4_rightAt 6 = .ok (.isub, 1) := by decide +kernel
theorem dX4_rightAt_7 : decode cX4_rightAt 7 = .ok (.ireturn, 1) := by decide +kernel
theorem dX5_init_0 : decode cX5_init 0 = .ok (.aload_n 0, 1) := by decide +kernel
theorem dX5_init_1 : decode cX5_init 1 = .ok (.invokespecial 1, 3) := by decide +kernel
theorem dX5_init_4 : decode cX5_init 4 = .ok (.aload_n 0, 1) := by decide +kernel
theorem dX5_init_5 : decode cX5_init 5 = .ok (.new 7, 3) := by decide +kernel
theorem dX5_init_8 : decode cX5_init 8 = .ok (.dup, 1) := by decide +kernel
theorem dX5_init_9 : decode cX5_init 9 = .ok (.invokespecial 9, 3) := by decide +kernel
theorem dX5_init_12 : decode cX5_init 12 = .ok (.putfield 10, 3) := by decide +kernel
theorem dX5_init_15 : decode cX5_init 15 = .ok (.aload_n 0, 1) := by decide +kernel
theorem dX5_init_16 : decode cX5_init 16 = .ok (.new 7, 3) := by decide +kernel
theorem dX5_init_19 : decode cX5_init 19 = .ok (.dup, 1) := by decide +kernel
theorem dX5_init_20 : decode cX5_init 20 = .ok (.invokespecial 9, 3) := by decide +kernel
theorem dX5_init_23 : decode cX5_init 23 = .ok (.putfield 16, 3) := by decide +kernel
theorem dX5_init_26 : decode cX5_init 26 = .ok (.aload_n 0, 1) := by decide +kernel
theorem dX5_init_27 : decode cX5_init 27 = .ok (.iconst 4, 1) := by decide +kernel
theorem dX5_init_28 : decode cX5_init 28 = .ok (.anewarray 7, 3) := by decide +kernel
theorem dX5_init_31 : decode cX5_init 31 = .ok (.putfield 19, 3) := by decide +kernel
theorem dX5_init_34 : decode cX5_init 34 = .ok (.aload_n 0, 1) := by decide +kernel
theorem dX5_init_35 : decode cX5_init 35 = .ok (.iconst 0, 1) := by decide +kernel
theorem dX5_init_36 : decode cX5_init 36 = .ok (.putfield 23, 3) := by decide +kernel
theorem dX5_init_39 : decode cX5_init 39 = .ok (.aload_n 0, 1) := by decide +kernel
theorem dX5_init_40 : decode cX5_init 40 = .ok (.iconst 0, 1) := by decide +kernel
theorem dX5_init_41 : decode cX5_init 41 = .ok (.putfield 27, 3) := by decide +kernel
theorem dX5_init_44 : decode cX5_init 44 = .ok (.aload_n 0, 1) := by decide +kernel
theorem dX5_init_45 : decode cX5_init 45 = .ok (.new 30, 3) := by decide +kernel
theorem dX5_init_48 : decode cX5_init 48 = .ok (.dup, 1) := by decide +kernel
theorem dX5_init_49 : decode cX5_init 49 = .ok (.invokespecial 32, 3) := by decide +kernel
theorem dX5_init_52 : decode cX5_init 52 = .ok (.putfield 33, 3) := by decide +kernel
theorem dX5_init_55 : decode cX5_init 55 = .ok (.aload_n 0, 1) := by decide +kernel
theorem dX5_init_56 : decode cX5_init 56 = .ok (.new 37, 3) := by decide +kernel
theorem dX5_init_59 : decode cX5_init 59 = .ok (.dup, 1) := by decide +kernel
theorem dX5_init_60 : decode cX5_init 60 = .ok (.invokespecial 39, 3) := by decide +kernel
theorem dX5_init_63 : decode cX5_init 63 = .ok (.putfield 40, 3) := by decide +kernel
theorem dX5_init_66 : decode cX5_init 66 = .ok (.aload_n 0, 1) := by decide +kernel
theorem dX5_init_67 : decode cX5_init 67 = .ok (.new 44, 3) := by decide +kernel
theorem dX5_init_70 : decode cX5_init 70 = .ok (.dup, 1) := by decide +kernel
theorem dX5_init_71 : decode cX5_init 71 = .ok (.invokespecial 46, 3) := by decide +kernel
theorem dX5_init_74 : decode cX5_init 74 = .ok (.putfield 47, 3) := by decide +kernel
theorem dX5_init_77 : decode cX5_init 77 = .ok (.aload_n 0, 1) := by decide +kernel
theorem dX5_init_78 : decode cX5_init 78 = .ok (.new 51, 3) := by decide +kernel
theorem dX5_init_81 : decode cX5_init 81 = .ok (.dup, 1) := by decide +kernel
theorem dX5_init_82 : decode cX5_init 82 = .ok (.bipush 49, 2) := by decide +kernel
theorem dX5_init_84 : decode cX5_init 84 = .ok (.invokespecial 53, 3) := by decide +kernel
theorem dX5_init_87 : decode cX5_init 87 = .ok (.putfield 56, 3) := by decide +kernel
theorem dX5_init_90 : decode cX5_init 90 = .ok (.iconst 0, 1) := by decide +kernel
theorem dX5_init_91 : decode cX5_init 91 = .ok (.istore_n 1, 1) := by decide +kernel
theorem dX5_init_92 : decode cX5_init 92 = .ok (.iload_n 1, 1) := by decide +kernel
theorem dX5_init_93 : decode cX5_init 93 = .ok (.aload_n 0, 1) := by decide +kernel
theorem dX5_init_94 : decode cX5_init 94 = .ok (.getfield 19, 3) := by decide +kernel
theorem dX5_init_97 : decode cX5_init 97 = .ok (.arraylength, 1) := by decide +kernel
theorem dX5_init_98 : decode cX5_init 98 = .ok (.if_icmp .ge 22, 3) := by decide +kernel
theorem dX5_init_101 : decode cX5_init 101 = .ok (.aload_n 0, 1) := by decide +kernel
theorem dX5_init_102 : decode cX5_init 102 = .ok (.getfield 19, 3) := by decide +kernel
theorem dX5_init_105 : decode cX5_init 105 = .ok (.iload_n 1, 1) := by decide +kernel
theorem dX5_init_106 : decode cX5_init 106 = .ok (.new 7, 3) := by decide +kernel
theorem dX5_init_109 : decode cX5_init 109 = .ok (.dup, 1) := by decide +kernel
theorem dX5_init_110 : decode cX5_init 110 = .ok (.invokespecial 9, 3) := by decide +kernel
theorem dX5_init_113 : decode cX5_init 113 = .ok (.aastore, 1) := by decide +kernel
theorem dX5_init_114 : decode cX5_init 114 = .ok (.iinc 1 1, 3) := by decide +kernel
theorem dX5_init_117 : decode cX5_init 117 = .ok (.goto (-25), 3) := by decide +kernel
theorem dX5_init_120 : decode cX5_init 120 = .ok (.aload_n 0, 1) := by decide +kernel
theorem dX5_init_121 : decode cX5_init 121 = .ok (.getfield 10, 3) := by decide +kernel
theorem dX5_init_124 : decode cX5_init 124 = .ok (.iconst 1, 1) := by decide +kernel
theorem dX5_init_125 : decode cX5_init 125 = .ok (.putfield 60, 3) := by decide +kernel
theorem dX5_init_128 : decode cX5_init 128 = .ok (.aload_n 0, 1) := by decide +kernel
theorem dX5_init_129 : decode cX5_init 129 = .ok (.getfield 10, 3) := by decide +kernel
theorem dX5_init_132 : decode cX5_init 132 = .ok (.iconst 4, 1) := by decide +kernel
theorem dX5_init_133 : decode cX5_init 133 = .ok (.iconst 4, 1) := by decide +kernel
theorem dX5_init_134 : decode cX5_init 134 = .ok (.invokevirtual 63, 3) := by decide +kernel
theorem dX5_init_137 : decode cX5_init 137 = .ok (.aload_n 0, 1) := by decide +kernel
theorem dX5_init_138 : decode cX5_init 138 = .ok (.getfield 10, 3) := by decide +kernel
theorem dX5_init_141 : decode cX5_init 141 = .ok (.bipush 10, 2) := by decide +kernel
theorem dX5_init_143 : decode cX5_init 143 = .ok (.invokevirtual 67, 3) := by decide +kernel
theorem dX5_init_146 : decode cX5_init 146 = .ok (.return_, 1) := by decide +kernel
theorem dX5_make_0 : decode cX5_make 0 = .ok (.iload_n 1, 1) := by decide +kernel
theorem dX5_make_1 : decode cX5_make 1 = .ok (.iconst 2, 1) := by decide +kernel
theorem dX5_make_2 : decode cX5_make 2 = .ok (.bipush 7, 2) := by decide +kernel
theorem dX5_make_4 : decode cX5_make 4 = .ok (.invokestatic 70, 3) := by decide +kernel
theorem dX5_make_7 : decode cX5_make 7 = .ok (.ifCond .ne 23, 3) := by decide +kernel
theorem dX5_make_10 : decode cX5_make 10 = .ok (.iload_n 2, 1) := by decide +kernel
theorem dX5_make_11 : decode cX5_make 11 = .ok (.iconst 2, 1) := by decide +kernel
theorem dX5_make_12 : decode cX5_make 12 = .ok (.bipush 7, 2) := by decide +kernel
theorem dX5_make_14 : decode cX5_make 14 = .ok (.invokestatic 70, 3) := by decide +kernel
theorem dX5_make_17 : decode cX5_make 17 = .ok (.ifCond .ne 13, 3) := by decide +kernel
theorem dX5_make_20 : decode cX5_make 20 = .ok (.iload_n 3, 1) := by decide +kernel
theorem dX5_make_21 : decode cX5_make 21 = .ok (.iconst 0, 1) := by decide +kernel
theorem dX5_make_22 : decode cX5_make 22 = .ok (.bipush 50, 2) := by decide +kernel
theorem dX5_make_24 : decode cX5_make 24 = .ok (.invokestatic 70, 3) := by decide +kernel
theorem dX5_make_27 : decode cX5_make 27 = .ok (.ifCond .eq 13, 3) := by decide +kernel
theorem dX5_make_30 : decode cX5_make 30 = .ok (.new 74, 3) := by decide +kernel
theorem dX5_make_33 : decode cX5_make 33 = .ok (.dup, 1) := by decide +kernel
theorem dX5_make_34 : decode cX5_make 34 = .ok (.ldc 76, 2) := by decide +kernel
theorem dX5_make_36 : decode cX5_make 36 = .ok (.invokespecial 78, 3) := by decide +kernel
theorem dX5_make_39 : decode cX5_make 39 = .ok (.athrow, 1) := by decide +kernel
theorem dX5_make_40 : decode cX5_make 40 = .ok (.aload_n 0, 1) := by decide +kernel
theorem dX5_make_41 : decode cX5_make 41 = .ok (.invokevirtual 81, 3) := by decide +kernel
theorem dX5_make_44 : decode cX5_make 44 = .ok (.aload_n 0, 1) := by decide +kernel
theorem dX5_make_45 : decode cX5_make 45 = .ok (.getfield 10, 3) := by decide +kernel
theorem dX5_make_48 : decode cX5_make 48 = .ok (.iload_n 1, 1) := by decide +kernel
theorem dX5_make_49 : decode cX5_make 49 = .ok (.iload_n 2, 1) := by decide +kernel
theorem dX5_make_50 : decode cX5_make 50 = .ok (.invokevirtual 63, 3) := by decide +kernel
theorem dX5_make_53 : decode cX5_make 53 = .ok (.aload_n 0, 1) := by decide +kernel
theorem dX5_make_54 : decode cX5_make 54 = .ok (.getfield 10, 3) := by decide +kernel
theorem dX5_make_57 : decode cX5_make 57 = .ok (.iload_n 3, 1) := by decide +kernel
theorem dX5_make_58 : decode cX5_make 58 = .ok (.invokevirtual 67, 3) := by decide +kernel
theorem dX5_make_61 : decode cX5_make 61 = .ok (.aload_n 0, 1) := by decide +kernel
theorem dX5_make_62 : decode cX5_make 62 = .ok (.getfield 10, 3) := by decide +kernel
theorem dX5_make_65 : decode cX5_make 65 = .ok (.getfield 84, 3) := by decide +kernel
theorem dX5_make_68 : decode cX5_make 68 = .ok (.ireturn, 1) := by decide +kernel
theorem dX5_lay_0 : decode cX5_lay 0 = .ok (.aload_n 0, 1) := by decide +kernel
theorem dX5_lay_1 : decode cX5_lay 1 = .ok (.iload_n 1, 1) := by decide +kernel
theorem dX5_lay_2 : decode cX5_lay 2 = .ok (.invokevirtual 87, 3) := by decide +kernel
theorem dX5_lay_5 : decode cX5_lay 5 = .ok (.iload_n 2, 1) := by decide +kernel
theorem dX5_lay_6 : decode cX5_lay 6 = .ok (.iconst 1, 1) := by decide +kernel
theorem dX5_lay_7 : decode cX5_lay 7 = .ok (.bipush 50, 2) := by decide +kernel
theorem dX5_lay_9 : decode cX5_lay 9 = .ok (.invokestatic 70, 3) := by decide +kernel
theorem dX5_lay_12 : decode cX5_lay 12 = .ok (.ifCond .eq 13, 3) := by decide +kernel
theorem dX5_lay_15 : decode cX5_lay 15 = .ok (.new 74, 3) := by decide +kernel
theorem dX5_lay_18 : decode cX5_lay 18 = .ok (.dup, 1) := by decide +kernel
theorem dX5_lay_19 : decode cX5_lay 19 = .ok (.ldc 90, 2) := by decide +kernel
theorem dX5_lay_21 : decode cX5_lay 21 = .ok (.invokespecial 78, 3) := by decide +kernel
theorem dX5_lay_24 : decode cX5_lay 24 = .ok (.athrow, 1) := by decide +kernel
theorem dX5_lay_25 : decode cX5_lay 25 = .ok (.aload_n 0, 1) := by decide +kernel
theorem dX5_lay_26 : decode cX5_lay 26 = .ok (.getfield 10, 3) := by decide +kernel
theorem dX5_lay_29 : decode cX5_lay 29 = .ok (.getfield 92, 3) := by decide +kernel
theorem dX5_lay_32 : decode cX5_lay 32 = .ok (.iload_n 1, 1) := by decide +kernel
theorem dX5_lay_33 : decode cX5_lay 33 = .ok (.invokevirtual 95, 3) := by decide +kernel
theorem dX5_lay_36 : decode cX5_lay 36 = .ok (.iload_n 2, 1) := by decide +kernel
theorem dX5_lay_37 : decode cX5_lay 37 = .ok (.iadd, 1) := by decide +kernel
theorem dX5_lay_38 : decode cX5_lay 38 = .ok (.bipush 50, 2) := by decide +kernel
theorem dX5_lay_40 : decode cX5_lay 40 = .ok (.if_icmp .le 13, 3) := by decide +kernel
theorem dX5_lay_43 : decode cX5_lay 43 = .ok (.new 99, 3) := by decide +kernel
theorem dX5_lay_46 : decode cX5_lay 46 = .ok (.dup, 1) := by decide +kernel
theorem dX5_lay_47 : decode cX5_lay 47 = .ok (.ldc 101, 2) := by decide +kernel
theorem dX5_lay_49 : decode cX5_lay 49 = .ok (.invokespecial 103, 3) := by decide +kernel
theorem dX5_lay_52 : decode cX5_lay 52 = .ok (.athrow, 1) := by decide +kernel
theorem dX5_lay_53 : decode cX5_lay 53 = .ok (.aload_n 0, 1) := by decide +kernel
theorem dX5_lay_54 : decode cX5_lay 54 = .ok (.invokevirtual 81, 3) := by decide +kernel
theorem dX5_lay_57 : decode cX5_lay 57 = .ok (.aload_n 0, 1) := by decide +kernel
theorem dX5_lay_58 : decode cX5_lay 58 = .ok (.getfield 10, 3) := by decide +kernel
theorem dX5_lay_61 : decode cX5_lay 61 = .ok (.iload_n 1, 1) := by decide +kernel
theorem dX5_lay_62 : decode cX5_lay 62 = .ok (.iload_n 2, 1) := by decide +kernel
theorem dX5_lay_63 : decode cX5_lay 63 = .ok (.invokevirtual 104, 3) := by decide +kernel
theorem dX5_lay_66 : decode cX5_lay 66 = .ok (.aload_n 0, 1) := by decide +kernel
theorem dX5_lay_67 : decode cX5_lay 67 = .ok (.getfield 10, 3) := by decide +kernel
theorem dX5_lay_70 : decode cX5_lay 70 = .ok (.getfield 92, 3) := by decide +kernel
theorem dX5_lay_73 : decode cX5_lay 73 = .ok (.iload_n 1, 1) := by decide +kernel
theorem dX5_lay_74 : decode cX5_lay 74 = .ok (.invokevirtual 95, 3) := by decide +kernel
theorem dX5_lay_77 : decode cX5_lay 77 = .ok (.ireturn, 1) := by decide +kernel
theorem dX5_saw_0 : decode cX5_saw 0 = .ok (.aload_n 0, 1) := by decide +kernel
theorem dX5_saw_1 : decode cX5_saw 1 = .ok (.iload_n 1, 1) := by decide +kernel
theorem dX5_saw_2 : decode cX5_saw 2 = .ok (.invokevirtual 87, 3) := by decide +kernel
theorem dX5_saw_5 : decode cX5_saw 5 = .ok (.iload_n 2, 1) := by decide +kernel
theorem dX5_saw_6 : decode cX5_saw 6 = .ok (.iconst 0, 1) := by decide +kernel
theorem dX5_saw_7 : decode cX5_saw 7 = .ok (.iconst 3, 1) := by decide +kernel
theorem dX5_saw_8 : decode cX5_saw 8 = .ok (.invokestatic 70, 3) := by decide +kernel
theorem dX5_saw_11 : decode cX5_saw 11 = .ok (.ifCond .eq 13, 3) := by decide +kernel
theorem dX5_saw_14 : decode cX5_saw 14 = .ok (.new 74, 3) := by decide +kernel
theorem dX5_saw_17 : decode cX5_saw 17 = .ok (.dup, 1) := by decide +kernel
theorem dX5_saw_18 : decode cX5_saw 18 = .ok (.ldc 107, 2) := by decide +kernel
theorem dX5_saw_20 : decode cX5_saw 20 = .ok (.invokespecial 78, 3) := by decide +kernel
theorem dX5_saw_23 : decode cX5_saw 23 = .ok (.athrow, 1) := by decide +kernel
theorem dX5_saw_24 : decode cX5_saw 24 = .ok (.aload_n 0, 1) := by decide +kernel
theorem dX5_saw_25 : decode cX5_saw 25 = .ok (.getfield 10, 3) := by decide +kernel
theorem dX5_saw_28 : decode cX5_saw 28 = .ok (.iload_n 1, 1) := by decide +kernel
theorem dX5_saw_29 : decode cX5_saw 29 = .ok (.iload_n 2, 1) := by decide +kernel
theorem dX5_saw_30 : decode cX5_saw 30 = .ok (.invokevirtual 109, 3) := by decide +kernel
theorem dX5_saw_33 : decode cX5_saw 33 = .ok (.ifCond .ne 13, 3) := by decide +kernel
theorem dX5_saw_36 : decode cX5_saw 36 = .ok (.new 99, 3) := by decide +kernel
theorem dX5_saw_39 : decode cX5_saw 39 = .ok (.dup, 1) := by decide +kernel
theorem dX5_saw_40 : decode cX5_saw 40 = .ok (.ldc 113, 2) := by decide +kernel
theorem dX5_saw_42 : decode cX5_saw 42 = .ok (.invokespecial 103, 3) := by decide +kernel
theorem dX5_saw_45 : decode cX5_saw 45 = .ok (.athrow, 1) := by decide +kernel
theorem dX5_saw_46 : decode cX5_saw 46 = .ok (.aload_n 0, 1) := by decide +kernel
theorem dX5_saw_47 : decode cX5_saw 47 = .ok (.invokevirtual 81, 3) := by decide +kernel
theorem dX5_saw_50 : decode cX5_saw 50 = .ok (.aload_n 0, 1) := by decide +kernel
theorem dX5_saw_51 : decode cX5_saw 51 = .ok (.getfield 10, 3) := by decide +kernel
theorem dX5_saw_54 : decode cX5_saw 54 = .ok (.iload_n 1, 1) := by decide +kernel
theorem dX5_saw_55 : decode cX5_saw 55 = .ok (.iload_n 2, 1) := by decide +kernel
theorem dX5_saw_56 : decode cX5_saw 56 = .ok (.invokevirtual 115, 3) := by decide +kernel
theorem dX5_saw_59 : decode cX5_saw 59 = .ok (.ireturn, 1) := by decide +kernel
theorem dX5_sawAround_0 : decode cX5_sawAround 0 = .ok (.aload_n 0, 1) := by decide +kernel
theorem dX5_sawAround_1 : decode cX5_sawAround 1 = .ok (.iload_n 1, 1) := by decide +kernel
theorem dX5_sawAround_2 : decode cX5_sawAround 2 = .ok (.iload_n 2, 1) := by decide +kernel
theorem dX5_sawAround_3 : decode cX5_sawAround 3 = .ok (.iload_n 3, 1) := by decide +kernel
theorem dX5_sawAround_4 : decode cX5_sawAround 4 = .ok (.invokevirtual 119, 3) := by decide +kernel
theorem dX5_sawAround_7 : decode cX5_sawAround 7 = .ok (.aload_n 0, 1) := by decide +kernel
theorem dX5_sawAround_8 : decode cX5_sawAround 8 = .ok (.invokevirtual 81, 3) := by decide +kernel
theorem dX5_sawAround_11 : decode cX5_sawAround 11 = .ok (.aload_n 0, 1) := by decide +kernel
theorem dX5_sawAround_12 : decode cX5_sawAround 12 = .ok (.getfield 10, 3) := by decide +kernel
theorem dX5_sawAround_15 : decode cX5_sawAround 15 = .ok (.iload_n 1, 1) := by decide +kernel
theorem dX5_sawAround_16 : decode cX5_sawAround 16 = .ok (.iload_n 2, 1) := by decide +kernel
theorem dX5_sawAround_17 : decode cX5_sawAround 17 = .ok (.iload_n 3, 1) := by decide +kernel
theorem dX5_sawAround_18 : decode cX5_sawAround 18 = .ok (.invokevirtual 123, 3) := by decide +kernel
theorem dX5_sawAround_21 : decode cX5_sawAround 21 = .ok (.ireturn, 1) := by decide +kernel
theorem dX5_takeOut_0 : decode cX5_takeOut 0 = .ok (.aload_n 0, 1) := by decide +kernel
theorem dX5_takeOut_1 : decode cX5_takeOut 1 = .ok (.iload_n 1, 1) := by decide +kernel
theorem dX5_takeOut_2 : decode cX5_takeOut 2 = .ok (.invokevirtual 87, 3) := by decide +kernel
theorem dX5_takeOut_5 : decode cX5_takeOut 5 = .ok (.aload_n 0, 1) := by decide +kernel
theorem dX5_takeOut_6 : decode cX5_takeOut 6 = .ok (.getfield 40, 3) := by decide +kernel
theorem dX5_takeOut_9 : decode cX5_takeOut 9 = .ok (.aload_n 0, 1) := by decide +kernel
theorem dX5_takeOut_10 : decode cX5_takeOut 10 = .ok (.getfield 10, 3) := by decide +kernel
theorem dX5_takeOut_13 : decode cX5_takeOut 13 = .ok (.invokevirtual 127, 3) := by decide +kernel
theorem dX5_takeOut_16 : decode cX5_takeOut 16 = .ok (.aload_n 0, 1) := by decide +kernel
theorem dX5_takeOut_17 : decode cX5_takeOut 17 = .ok (.getfield 40, 3) := by decide +kernel
theorem dX5_takeOut_20 : decode cX5_takeOut 20 = .ok (.iload_n 1, 1) := by decide +kernel
theorem dX5_takeOut_21 : decode cX5_takeOut 21 = .ok (.invokevirtual 131, 3) := by decide +kernel
theorem dX5_takeOut_24 : decode cX5_takeOut 24 = .ok (.istore_n 2, 1) := by decide +kernel
theorem dX5_takeOut_25 : decode cX5_takeOut 25 = .ok (.aload_n 0, 1) := by decide +kernel
theorem dX5_takeOut_26 : decode cX5_takeOut 26 = .ok (.getfield 40, 3) := by decide +kernel
theorem dX5_takeOut_29 : decode cX5_takeOut 29 = .ok (.iload_n 2, 1) := by decide +kernel
theorem dX5_takeOut_30 : decode cX5_takeOut 30 = .ok (.invokevirtual 134, 3) := by decide +kernel
theorem dX5_takeOut_33 : decode cX5_takeOut 33 = .ok (.ifCond .eq 23, 3) := by decide +kernel
theorem dX5_takeOut_36 : decode cX5_takeOut 36 = .ok (.aload_n 0, 1) := by decide +kernel
theorem dX5_takeOut_37 : decode cX5_takeOut 37 = .ok (.getfield 47, 3) := by decide +kernel
theorem dX5_takeOut_40 : decode cX5_takeOut 40 = .ok (.aload_n 0, 1) := by decide +kernel
theorem dX5_takeOut_41 : decode cX5_takeOut 41 = .ok (.getfield 10, 3) := by decide +kernel
theorem dX5_takeOut_44 : decode cX5_takeOut 44 = .ok (.aload_n 0, 1) := by decide +kernel
theorem dX5_takeOut_45 : decode cX5_takeOut 45 = .ok (.getfield 40, 3) := by decide +kernel
theorem dX5_takeOut_48 : decode cX5_takeOut 48 = .ok (.iload_n 2, 1) := by decide +kernel
theorem dX5_takeOut_49 : decode cX5_takeOut 49 = .ok (.invokevirtual 138, 3) := by decide +kernel
theorem dX5_takeOut_52 : decode cX5_takeOut 52 = .ok (.iconst (-1), 1) := by decide +kernel
theorem dX5_takeOut_53 : decode cX5_takeOut 53 = .ok (.if_icmp .ne 13, 3) := by decide +kernel
theorem dX5_takeOut_56 : decode cX5_takeOut 56 = .ok (.new 99, 3) := by decide +kernel
theorem dX5_takeOut_59 : decode cX5_takeOut 59 = .ok (.dup, 1) := by decide +kernel
theorem dX5_takeOut_60 : decode cX5_takeOut 60 = .ok (.ldc 142, 2) := by decide +kernel
theorem dX5_takeOut_62 : decode cX5_takeOut 62 = .ok (.invokespecial 103, 3) := by decide +kernel
theorem dX5_takeOut_65 : decode cX5_takeOut 65 = .ok (.athrow, 1) := by decide +kernel
theorem dX5_takeOut_66 : decode cX5_takeOut 66 = .ok (.aload_n 0, 1) := by decide +kernel
theorem dX5_takeOut_67 : decode cX5_takeOut 67 = .ok (.invokevirtual 81, 3) := by decide +kernel
theorem dX5_takeOut_70 : decode cX5_takeOut 70 = .ok (.aload_n 0, 1) := by decide +kernel
theorem dX5_takeOut_71 : decode cX5_takeOut 71 = .ok (.getfield 10, 3) := by decide +kernel
theorem dX5_takeOut_74 : decode cX5_takeOut 74 = .ok (.aload_n 0, 1) := by decide +kernel
theorem dX5_takeOut_75 : decode cX5_takeOut 75 = .ok (.getfield 40, 3) := by decide +kernel
theorem dX5_takeOut_78 : decode cX5_takeOut 78 = .ok (.iload_n 2, 1) := by decide +kernel
theorem dX5_takeOut_79 : decode cX5_takeOut 79 = .ok (.invokevirtual 144, 3) := by decide +kernel
theorem dX5_takeOut_82 : decode cX5_takeOut 82 = .ok (.ireturn, 1) := by decide +kernel
theorem dX5_takeAll_0 : decode cX5_takeAll 0 = .ok (.aload_n 0, 1) := by decide +kernel
theorem dX5_takeAll_1 : decode cX5_takeAll 1 = .ok (.invokevirtual 81, 3) := by decide +kernel
theorem dX5_takeAll_4 : decode cX5_takeAll 4 = .ok (.aload_n 0, 1) := by decide +kernel
theorem dX5_takeAll_5 : decode cX5_takeAll 5 = .ok (.aload_n 0, 1) := by decide +kernel
theorem dX5_takeAll_6 : decode cX5_takeAll 6 = .ok (.getfield 10, 3) := by decide +kernel
theorem dX5_takeAll_9 : decode cX5_takeAll 9 = .ok (.invokevirtual 148, 3) := by decide +kernel
theorem dX5_takeAll_12 : decode cX5_takeAll 12 = .ok (.ireturn, 1) := by decide +kernel
theorem dX5_setMelt_0 : decode cX5_setMelt 0 = .ok (.iload_n 1, 1) := by decide +kernel
theorem dX5_setMelt_1 : decode cX5_setMelt 1 = .ok (.iconst 0, 1) := by decide +kernel
theorem dX5_setMelt_2 : decode cX5_setMelt 2 = .ok (.bipush 9, 2) := by decide +kernel
theorem dX5_setMelt_4 : decode cX5_setMelt 4 = .ok (.invokestatic 70, 3) := by decide +kernel
theorem dX5_setMelt_7 : decode cX5_setMelt 7 = .ok (.ifCond .eq 13, 3) := by decide +kernel
theorem dX5_setMelt_10 : decode cX5_setMelt 10 = .ok (.new 74, 3) := by decide +kernel
theorem dX5_setMelt_13 : decode cX5_setMelt 13 = .ok (.dup, 1) := by decide +kernel
theorem dX5_setMelt_14 : decode cX5_setMelt 14 = .ok (.ldc 152, 2) := by decide +kernel
theorem dX5_setMelt_16 : decode cX5_setMelt 16 = .ok (.invokespecial 78, 3) := by decide +kernel
theorem dX5_setMelt_19 : decode cX5_setMelt 19 = .ok (.athrow, 1) := by decide +kernel
theorem dX5_setMelt_20 : decode cX5_setMelt 20 = .ok (.aload_n 0, 1) := by decide +kernel
theorem dX5_setMelt_21 : decode cX5_setMelt 21 = .ok (.invokevirtual 81, 3) := by decide +kernel
theorem dX5_setMelt_24 : decode cX5_setMelt 24 = .ok (.aload_n 0, 1) := by decide +kernel
theorem dX5_setMelt_25 : decode cX5_setMelt 25 = .ok (.getfield 10, 3) := by decide +kernel
theorem dX5_setMelt_28 : decode cX5_setMelt 28 = .ok (.getfield 60, 3) := by decide +kernel
theorem dX5_setMelt_31 : decode cX5_setMelt 31 = .ok (.istore_n 2, 1) := by decide +kernel
theorem dX5_setMelt_32 : decode cX5_setMelt 32 = .ok (.aload_n 0, 1) := by decide +kernel
theorem dX5_setMelt_33 : decode cX5_setMelt 33 = .ok (.getfield 10, 3) := by decide +kernel
theorem dX5_setMelt_36 : decode cX5_setMelt 36 = .ok (.iload_n 1, 1) := by decide +kernel
theorem dX5_setMelt_37 : decode cX5_setMelt 37 = .ok (.putfield 60, 3) := by decide +kernel
theorem dX5_setMelt_40 : decode cX5_setMelt 40 = .ok (.iload_n 2, 1) := by decide +kernel
theorem dX5_setMelt_41 : decode cX5_setMelt 41 = .ok (.ireturn, 1) := by decide +kernel
theorem dX5_pass_0 : decode cX5_pass 0 = .ok (.iload_n 1, 1) := by decide +kernel
theorem dX5_pass_1 : decode cX5_pass 1 = .ok (.iconst 1, 1) := by decide +kernel
theorem dX5_pass_2 : decode cX5_pass 2 = .ok (.bipush 50, 2) := by decide +kernel
theorem dX5_pass_4 : decode cX5_pass 4 = .ok (.invokestatic 70, 3) := by decide +kernel
theorem dX5_pass_7 : decode cX5_pass 7 = .ok (.ifCond .eq 13, 3) := by decide +kernel
theorem dX5_pass_10 : decode cX5_pass 10 = .ok (.new 74, 3) := by decide +kernel
theorem dX5_pass_13 : decode cX5_pass 13 = .ok (.dup, 1) := by decide +kernel
theorem dX5_pass_14 : decode cX5_pass 14 = .ok (.ldc 154, 2) := by decide +kernel
theorem dX5_pass_16 : decode cX5_pass 16 = .ok (.invokespecial 78, 3) := by decide +kernel
theorem dX5_pass_19 : decode cX5_pass 19 = .ok (.athrow, 1) := by decide +kernel
theorem dX5_pass_20 : decode cX5_pass 20 = .ok (.aload_n 0, 1) := by decide +kernel
theorem dX5_pass_21 : decode cX5_pass 21 = .ok (.invokevirtual 81, 3) := by decide +kernel
theorem dX5_pass_24 : decode cX5_pass 24 = .ok (.aload_n 0, 1) := by decide +kernel
theorem dX5_pass_25 : decode cX5_pass 25 = .ok (.getfield 10, 3) := by decide +kernel
theorem dX5_pass_28 : decode cX5_pass 28 = .ok (.getfield 156, 3) := by decide +kernel
theorem dX5_pass_31 : decode cX5_pass 31 = .ok (.istore_n 2, 1) := by decide +kernel
theorem dX5_pass_32 : decode cX5_pass 32 = .ok (.iconst 0, 1) := by decide +kernel
theorem dX5_pass_33 : decode cX5_pass 33 = .ok (.istore_n 3, 1) := by decide +kernel
theorem dX5_pass_34 : decode cX5_pass 34 = .ok (.iload_n 3, 1) := by decide +kernel
theorem dX5_pass_35 : decode cX5_pass 35 = .ok (.iload_n 1, 1) := by decide +kernel
theorem dX5_pass_36 : decode cX5_pass 36 = .ok (.if_icmp .ge 16, 3) := by decide +kernel
theorem dX5_pass_39 : decode cX5_pass 39 = .ok (.aload_n 0, 1) := by decide +kernel
theorem dX5_pass_40 : decode cX5_pass 40 = .ok (.getfield 10, 3) := by decide +kernel
theorem dX5_pass_43 : decode cX5_pass 43 = .ok (.invokevirtual 159, 3) := by decide +kernel
theorem dX5_pass_46 : decode cX5_pass 46 = .ok (.iinc 3 1, 3) := by decide +kernel
theorem dX5_pass_49 : decode cX5_pass 49 = .ok (.goto (-15), 3) := by decide +kernel
theorem dX5_pass_52 : decode cX5_pass 52 = .ok (.aload_n 0, 1) := by decide +kernel
theorem dX5_pass_53 : decode cX5_pass 53 = .ok (.getfield 10, 3) := by decide +kernel
theorem dX5_pass_56 : decode cX5_pass 56 = .ok (.getfield 156, 3) := by decide +kernel
theorem dX5_pass_59 : decode cX5_pass 59 = .ok (.iload_n 2, 1) := by decide +kernel
theorem dX5_pass_60 : decode cX5_pass 60 = .ok (.isub, 1) := by decide +kernel
theorem dX5_pass_61 : decode cX5_pass 61 = .ok (.ireturn, 1) := by decide +kernel
theorem dX5_cell_0 : decode cX5_cell 0 = .ok (.aload_n 0, 1) := by decide +kernel
theorem dX5_cell_1 : decode cX5_cell 1 = .ok (.iload_n 1, 1) := by decide +kernel
theorem dX5_cell_2 : decode cX5_cell 2 = .ok (.invokevirtual 87, 3) := by decide +kernel
theorem dX5_cell_5 : decode cX5_cell 5 = .ok (.iload_n 2, 1) := by decide +kernel
theorem dX5_cell_6 : decode cX5_cell 6 = .ok (.iconst 0, 1) := by decide +kernel
theorem dX5_cell_7 : decode cX5_cell 7 = .ok (.bipush 6, 2) := by decide +kernel
theorem dX5_cell_9 : decode cX5_cell 9 = .ok (.invokestatic 70, 3) := by decide +kernel
theorem dX5_cell_12 : decode cX5_cell 12 = .ok (.ifCond .eq 13, 3) := by decide +kernel
theorem dX5_cell_15 : decode cX5_cell 15 = .ok (.new 74, 3) := by decide +kernel
theorem dX5_cell_18 : decode cX5_cell 18 = .ok (.dup, 1) := by decide +kernel
theorem dX5_cell_19 : decode cX5_cell 19 = .ok (.ldc 162, 2) := by decide +kernel
theorem dX5_cell_21 : decode cX5_cell 21 = .ok (.invokespecial 78, 3) := by decide +kernel
theorem dX5_cell_24 : decode cX5_cell 24 = .ok (.athrow, 1) := by decide +kernel
theorem dX5_cell_25 : decode cX5_cell 25 = .ok (.iload_n 2, 1) := by decide +kernel
theorem dX5_cell_26 : decode cX5_cell 26 = .ok (.iconst 5, 1) := by decide +kernel
theorem dX5_cell_27 : decode cX5_cell 27 = .ok (.if_icmp .ne 14, 3) := by decide +kernel
theorem dX5_cell_30 : decode cX5_cell 30 = .ok (.aload_n 0, 1) := by decide +kernel
theorem dX5_cell_31 : decode cX5_cell 31 = .ok (.getfield 40, 3) := by decide +kernel
theorem dX5_cell_34 : decode cX5_cell 34 = .ok (.aload_n 0, 1) := by decide +kernel
theorem dX5_cell_35 : decode cX5_cell 35 = .ok (.getfield 10, 3) := by decide +kernel
theorem dX5_cell_38 : decode cX5_cell 38 = .ok (.invokevirtual 127, 3) := by decide +kernel
theorem dX5_cell_41 : decode cX5_cell 41 = .ok (.aload_n 0, 1) := by decide +kernel
theorem dX5_cell_42 : decode cX5_cell 42 = .ok (.iload_n 1, 1) := by decide +kernel
theorem dX5_cell_43 : decode cX5_cell 43 = .ok (.iload_n 2, 1) := by decide +kernel
theorem dX5_cell_44 : decode cX5_cell 44 = .ok (.invokevirtual 164, 3) := by decide +kernel
theorem dX5_cell_47 : decode cX5_cell 47 = .ok (.ireturn, 1) := by decide +kernel
theorem dX5_block_0 : decode cX5_block 0 = .ok (.aload_n 0, 1) := by decide +kernel
theorem dX5_block_1 : decode cX5_block 1 = .ok (.iload_n 1, 1) := by decide +kernel
theorem dX5_block_2 : decode cX5_block 2 = .ok (.invokevirtual 87, 3) := by decide +kernel
theorem dX5_block_5 : decode cX5_block 5 = .ok (.iload_n 2, 1) := by decide +kernel
theorem dX5_block_6 : decode cX5_block 6 = .ok (.iconst 0, 1) := by decide +kernel
theorem dX5_block_7 : decode cX5_block 7 = .ok (.iconst 4, 1) := by decide +kernel
theorem dX5_block_8 : decode cX5_block 8 = .ok (.invokestatic 70, 3) := by decide +kernel
theorem dX5_block_11 : decode cX5_block 11 = .ok (.ifCond .eq 13, 3) := by decide +kernel
theorem dX5_block_14 : decode cX5_block 14 = .ok (.new 74, 3) := by decide +kernel
theorem dX5_block_17 : decode cX5_block 17 = .ok (.dup, 1) := by decide +kernel
theorem dX5_block_18 : decode cX5_block 18 = .ok (.ldc 162, 2) := by decide +kernel
theorem dX5_block_20 : decode cX5_block 20 = .ok (.invokespecial 78, 3) := by decide +kernel
theorem dX5_block_23 : decode cX5_block 23 = .ok (.athrow, 1) := by decide +kernel
theorem dX5_block_24 : decode cX5_block 24 = .ok (.aload_n 0, 1) := by decide +kernel
theorem dX5_block_25 : decode cX5_block 25 = .ok (.getfield 40, 3) := by decide +kernel
theorem dX5_block_28 : decode cX5_block 28 = .ok (.aload_n 0, 1) := by decide +kernel
theorem dX5_block_29 : decode cX5_block 29 = .ok (.getfield 10, 3) := by decide +kernel
theorem dX5_block_32 : decode cX5_block 32 = .ok (.invokevirtual 127, 3) := by decide +kernel
theorem dX5_block_35 : decode cX5_block 35 = .ok (.iload_n 2, 1) := by decide +kernel
theorem dX5_block_36 : decode cX5_block 36 = .ok (.iconst 4, 1) := by decide +kernel
theorem dX5_block_37 : decode cX5_block 37 = .ok (.if_icmp .ne 15, 3) := by decide +kernel
theorem dX5_block_40 : decode cX5_block 40 = .ok (.aload_n 0, 1) := by decide +kernel
theorem dX5_block_41 : decode cX5_block 41 = .ok (.aload_n 0, 1) := by decide +kernel
theorem dX5_block_42 : decode cX5_block 42 = .ok (.getfield 40, 3) := by decide +kernel
theorem dX5_block_45 : decode cX5_block 45 = .ok (.iload_n 1, 1) := by decide +kernel
theorem dX5_block_46 : decode cX5_block 46 = .ok (.invokevirtual 131, 3) := by decide +kernel
theorem dX5_block_49 : decode cX5_block 49 = .ok (.invokevirtual 167, 3) := by decide +kernel
theorem dX5_block_52 : decode cX5_block 52 = .ok (.aload_n 0, 1) := by decide +kernel
theorem dX5_block_53 : decode cX5_block 53 = .ok (.iload_n 1, 1) := by decide +kernel
theorem dX5_block_54 : decode cX5_block 54 = .ok (.iload_n 2, 1) := by decide +kernel
theorem dX5_block_55 : decode cX5_block 55 = .ok (.invokevirtual 170, 3) := by decide +kernel
theorem dX5_block_58 : decode cX5_block 58 = .ok (.ireturn, 1) := by decide +kernel
theorem dX5_move_0 : decode cX5_move 0 = .ok (.aload_n 0, 1) := by decide +kernel
theorem dX5_move_1 : decode cX5_move 1 = .ok (.iload_n 1, 1) := by decide +kernel
theorem dX5_move_2 : decode cX5_move 2 = .ok (.invokevirtual 87, 3) := by decide +kernel
theorem dX5_move_5 : decode cX5_move 5 = .ok (.iload_n 2, 1) := by decide +kernel
theorem dX5_move_6 : decode cX5_move 6 = .ok (.ifCond .ge 13, 3) := by decide +kernel
theorem dX5_move_9 : decode cX5_move 9 = .ok (.new 173, 3) := by decide +kernel
theorem dX5_move_12 : decode cX5_move 12 = .ok (.dup, 1) := by decide +kernel
theorem dX5_move_13 : decode cX5_move 13 = .ok (.ldc 175, 2) := by decide +kernel
theorem dX5_move_15 : decode cX5_move 15 = .ok (.invokespecial 177, 3) := by decide +kernel
theorem dX5_move_18 : decode cX5_move 18 = .ok (.athrow, 1) := by decide +kernel
theorem dX5_move_19 : decode cX5_move 19 = .ok (.aload_n 0, 1) := by decide +kernel
theorem dX5_move_20 : decode cX5_move 20 = .ok (.getfield 40, 3) := by decide +kernel
theorem dX5_move_23 : decode cX5_move 23 = .ok (.aload_n 0, 1) := by decide +kernel
theorem dX5_move_24 : decode cX5_move 24 = .ok (.getfield 10, 3) := by decide +kernel
theorem dX5_move_27 : decode cX5_move 27 = .ok (.invokevirtual 127, 3) := by decide +kernel
theorem dX5_move_30 : decode cX5_move 30 = .ok (.aload_n 0, 1) := by decide +kernel
theorem dX5_move_31 : decode cX5_move 31 = .ok (.getfield 40, 3) := by decide +kernel
theorem dX5_move_34 : decode cX5_move 34 = .ok (.iload_n 1, 1) := by decide +kernel
theorem dX5_move_35 : decode cX5_move 35 = .ok (.invokevirtual 131, 3) := by decide +kernel
theorem dX5_move_38 : decode cX5_move 38 = .ok (.istore_n 3, 1) := by decide +kernel
theorem dX5_move_39 : decode cX5_move 39 = .ok (.aload_n 0, 1) := by decide +kernel
theorem dX5_move_40 : decode cX5_move 40 = .ok (.getfield 40, 3) := by decide +kernel
theorem dX5_move_43 : decode cX5_move 43 = .ok (.iload_n 3, 1) := by decide +kernel
theorem dX5_move_44 : decode cX5_move 44 = .ok (.invokevirtual 134, 3) := by decide +kernel
theorem dX5_move_47 : decode cX5_move 47 = .ok (.ifCond .ne 5, 3) := by decide +kernel
theorem dX5_move_50 : decode cX5_move 50 = .ok (.iconst (-1), 1) := by decide +kernel
theorem dX5_move_51 : decode cX5_move 51 = .ok (.ireturn, 1) := by decide +kernel
theorem dX5_move_52 : decode cX5_move 52 = .ok (.iload_n 2, 1) := by decide +kernel
theorem dX5_move_53 : decode cX5_move 53 = .ok (.aload_n 0, 1) := by decide +kernel
theorem dX5_move_54 : decode cX5_move 54 = .ok (.getfield 47, 3) := by decide +kernel
theorem dX5_move_57 : decode cX5_move 57 = .ok (.aload_n 0, 1) := by decide +kernel
theorem dX5_move_58 : decode cX5_move 58 = .ok (.getfield 10, 3) := by decide +kernel
theorem dX5_move_61 : decode cX5_move 61 = .ok (.aload_n 0, 1) := by decide +kernel
theorem dX5_move_62 : decode cX5_move 62 = .ok (.getfield 40, 3) := by decide +kernel
theorem dX5_move_65 : decode cX5_move 65 = .ok (.iload_n 3, 1) := by decide +kernel
theorem dX5_move_66 : decode cX5_move 66 = .ok (.invokevirtual 138, 3) := by decide +kernel
theorem dX5_move_69 : decode cX5_move 69 = .ok (.if_icmp .ge 17, 3) := by decide +kernel
theorem dX5_move_72 : decode cX5_move 72 = .ok (.aload_n 0, 1) := by decide +kernel
theorem dX5_move_73 : decode cX5_move 73 = .ok (.getfield 47, 3) := by decide +kernel
theorem dX5_move_76 : decode cX5_move 76 = .ok (.getfield 178, 3) := by decide +kernel
theorem dX5_move_79 : decode cX5_move 79 = .ok (.iload_n 2, 1) := by decide +kernel
theorem dX5_move_80 : decode cX5_move 80 = .ok (.invokevirtual 95, 3) := by decide +kernel
theorem dX5_move_83 : decode cX5_move 83 = .ok (.goto 4, 3) := by decide +kernel
theorem dX5_move_86 : decode cX5_move 86 = .ok (.iconst (-1), 1) := by decide +kernel
theorem dX5_move_87 : decode cX5_move 87 = .ok (.ireturn, 1) := by decide +kernel
theorem dX5_value_0 : decode cX5_value 0 = .ok (.iload_n 1, 1) := by decide +kernel
theorem dX5_value_1 : decode cX5_value 1 = .ok (.iconst 0, 1) := by decide +kernel
theorem dX5_value_2 : decode cX5_value 2 = .ok (.bipush 13, 2) := by decide +kernel
theorem dX5_value_4 : decode cX5_value 4 = .ok (.invokestatic 70, 3) := by decide +kernel
theorem dX5_value_7 : decode cX5_value 7 = .ok (.ifCond .eq 13, 3) := by decide +kernel
theorem dX5_value_10 : decode cX5_value 10 = .ok (.new 74, 3) := by decide +kernel
theorem dX5_value_13 : decode cX5_value 13 = .ok (.dup, 1) := by decide +kernel
theorem dX5_value_14 : decode cX5_value 14 = .ok (.ldc 162, 2) := by decide +kernel
theorem dX5_value_16 : decode cX5_value 16 = .ok (.invokespecial 78, 3) := by decide +kernel
theorem dX5_value_19 : decode cX5_value 19 = .ok (.athrow, 1) := by decide +kernel
theorem dX5_value_20 : decode cX5_value 20 = .ok (.iload_n 1, 1) := by decide +kernel
theorem dX5_value_21 : decode cX5_value 21 = .ok (.iconst 3, 1) := by decide +kernel
theorem dX5_value_22 : decode cX5_value 22 = .ok (.iconst 5, 1) := by decide +kernel
theorem dX5_value_23 : decode cX5_value 23 = .ok (.invokestatic 70, 3) := by decide +kernel
theorem dX5_value_26 : decode cX5_value 26 = .ok (.ifCond .ne 7, 3) := by decide +kernel
theorem dX5_value_29 : decode cX5_value 29 = .ok (.aload_n 0, 1) := by decide +kernel
theorem dX5_value_30 : decode cX5_value 30 = .ok (.invokevirtual 181, 3) := by decide +kernel
theorem dX5_value_33 : decode cX5_value 33 = .ok (.aload_n 0, 1) := by decide +kernel
theorem dX5_value_34 : decode cX5_value 34 = .ok (.iload_n 1, 1) := by decide +kernel
theorem dX5_value_35 : decode cX5_value 35 = .ok (.invokevirtual 184, 3) := by decide +kernel
theorem dX5_value_38 : decode cX5_value 38 = .ok (.ireturn, 1) := by decide +kernel
theorem dX5_taken_0 : decode cX5_taken 0 = .ok (.iload_n 1, 1) := by decide +kernel
theorem dX5_taken_1 : decode cX5_taken 1 = .ok (.iconst 0, 1) := by decide +kernel
theorem dX5_taken_2 : decode cX5_taken 2 = .ok (.aload_n 0, 1) := by decide +kernel
theorem dX5_taken_3 : decode cX5_taken 3 = .ok (.getfield 10, 3) := by decide +kernel
theorem dX5_taken_6 : decode cX5_taken 6 = .ok (.invokevirtual 187, 3) := by decide +kernel
theorem dX5_taken_9 : decode cX5_taken 9 = .ok (.iconst 1, 1) := by decide +kernel
theorem dX5_taken_10 : decode cX5_taken 10 = .ok (.isub, 1) := by decide +kernel
theorem dX5_taken_11 : decode cX5_taken 11 = .ok (.invokestatic 70, 3) := by decide +kernel
theorem dX5_taken_14 : decode cX5_taken 14 = .ok (.ifCond .eq 13, 3) := by decide +kernel
theorem dX5_taken_17 : decode cX5_taken 17 = .ok (.new 173, 3) := by decide +kernel
theorem dX5_taken_20 : decode cX5_taken 20 = .ok (.dup, 1) := by decide +kernel
theorem dX5_taken_21 : decode cX5_taken 21 = .ok (.ldc 191, 2) := by decide +kernel
theorem dX5_taken_23 : decode cX5_taken 23 = .ok (.invokespecial 177, 3) := by decide +kernel
theorem dX5_taken_26 : decode cX5_taken 26 = .ok (.athrow, 1) := by decide +kernel
theorem dX5_taken_27 : decode cX5_taken 27 = .ok (.iload_n 2, 1) := by decide +kernel
theorem dX5_taken_28 : decode cX5_taken 28 = .ok (.iconst 0, 1) := by decide +kernel
theorem dX5_taken_29 : decode cX5_taken 29 = .ok (.iconst 2, 1) := by decide +kernel
theorem dX5_taken_30 : decode cX5_taken 30 = .ok (.invokestatic 70, 3) := by decide +kernel
theorem dX5_taken_33 : decode cX5_taken 33 = .ok (.ifCond .eq 13, 3) := by decide +kernel
theorem dX5_taken_36 : decode cX5_taken 36 = .ok (.new 74, 3) := by decide +kernel
theorem dX5_taken_39 : decode cX5_taken 39 = .ok (.dup, 1) := by decide +kernel
theorem dX5_taken_40 : decode cX5_taken 40 = .ok (.ldc 162, 2) := by decide +kernel
theorem dX5_taken_42 : decode cX5_taken 42 = .ok (.invokespecial 78, 3) := by decide +kernel
theorem dX5_taken_45 : decode cX5_taken 45 = .ok (.athrow, 1) := by decide +kernel
theorem dX5_taken_46 : decode cX5_taken 46 = .ok (.aload_n 0, 1) := by decide +kernel
theorem dX5_taken_47 : decode cX5_taken 47 = .ok (.getfield 10, 3) := by decide +kernel
theorem dX5_taken_50 : decode cX5_taken 50 = .ok (.iload_n 1, 1) := by decide +kernel
theorem dX5_taken_51 : decode cX5_taken 51 = .ok (.iload_n 2, 1) := by decide +kernel
theorem dX5_taken_52 : decode cX5_taken 52 = .ok (.invokevirtual 193, 3) := by decide +kernel
theorem dX5_taken_55 : decode cX5_taken 55 = .ok (.ireturn, 1) := by decide +kernel
theorem dX5_cutsAround_0 : decode cX5_cutsAround 0 = .ok (.aload_n 0, 1) := by decide +kernel
theorem dX5_cutsAround_1 : decode cX5_cutsAround 1 = .ok (.iload_n 1, 1) := by decide +kernel
theorem dX5_cutsAround_2 : decode cX5_cutsAround 2 = .ok (.iload_n 2, 1) := by decide +kernel
theorem dX5_cutsAround_3 : decode cX5_cutsAround 3 = .ok (.iload_n 3, 1) := by decide +kernel
theorem dX5_cutsAround_4 : decode cX5_cutsAround 4 = .ok (.invokevirtual 119, 3) := by decide +kernel
theorem dX5_cutsAround_7 : decode cX5_cutsAround 7 = .ok (.aload_n 0, 1) := by decide +kernel
theorem dX5_cutsAround_8 : decode cX5_cutsAround 8 = .ok (.getfield 16, 3) := by decide +kernel
theorem dX5_cutsAround_11 : decode cX5_cutsAround 11 = .ok (.aload_n 0, 1) := by decide +kernel
theorem dX5_cutsAround_12 : decode cX5_cutsAround 12 = .ok (.getfield 10, 3) := by decide +kernel
theorem dX5_cutsAround_15 : decode cX5_cutsAround 15 = .ok (.invokevirtual 196, 3) := by decide +kernel
theorem dX5_cutsAround_18 : decode cX5_cutsAround 18 = .ok (.aload_n 0, 1) := by decide +kernel
theorem dX5_cutsAround_19 : decode cX5_cutsAround 19 = .ok (.getfield 16, 3) := by decide +kernel
theorem dX5_cutsAround_22 : decode cX5_cutsAround 22 = .ok (.iload_n 1, 1) := by decide +kernel
theorem dX5_cutsAround_23 : decode cX5_cutsAround 23 = .ok (.iload_n 2, 1) := by decide +kernel
theorem dX5_cutsAround_24 : decode cX5_cutsAround 24 = .ok (.iload_n 3, 1) := by decide +kernel
theorem dX5_cutsAround_25 : decode cX5_cutsAround 25 = .ok (.invokevirtual 123, 3) := by decide +kernel
theorem dX5_cutsAround_28 : decode cX5_cutsAround 28 = .ok (.ireturn, 1) := by decide +kernel
theorem dX5_takable_0 : decode cX5_takable 0 = .ok (.aload_n 0, 1) := by decide +kernel
theorem dX5_takable_1 : decode cX5_takable 1 = .ok (.getfield 16, 3) := by decide +kernel
theorem dX5_takable_4 : decode cX5_takable 4 = .ok (.aload_n 0, 1) := by decide +kernel
theorem dX5_takable_5 : decode cX5_takable 5 = .ok (.getfield 10, 3) := by decide +kernel
theorem dX5_takable_8 : decode cX5_takable 8 = .ok (.invokevirtual 196, 3) := by decide +kernel
theorem dX5_takable_11 : decode cX5_takable 11 = .ok (.aload_n 0, 1) := by decide +kernel
theorem dX5_takable_12 : decode cX5_takable 12 = .ok (.aload_n 0, 1) := by decide +kernel
theorem dX5_takable_13 : decode cX5_takable 13 = .ok (.getfield 16, 3) := by decide +kernel
theorem dX5_takable_16 : decode cX5_takable 16 = .ok (.invokevirtual 148, 3) := by decide +kernel
theorem dX5_takable_19 : decode cX5_takable 19 = .ok (.ireturn, 1) := by decide +kernel
theorem dX5_leftStranded_0 : decode cX5_leftStranded 0 = .ok (.aload_n 0, 1) := by decide +kernel
theorem dX5_leftStranded_1 : decode cX5_leftStranded 1 = .ok (.getfield 16, 3) := by decide +kernel
theorem dX5_leftStranded_4 : decode cX5_leftStranded 4 = .ok (.aload_n 0, 1) := by decide +kernel
theorem dX5_leftStranded_5 : decode cX5_leftStranded 5 = .ok (.getfield 10, 3) := by decide +kernel
theorem dX5_leftStranded_8 : decode cX5_leftStranded 8 = .ok (.invokevirtual 196, 3) := by decide +kernel
theorem dX5_leftStranded_11 : decode cX5_leftStranded 11 = .ok (.aload_n 0, 1) := by decide +kernel
theorem dX5_leftStranded_12 : decode cX5_leftStranded 12 = .ok (.aload_n 0, 1) := by decide +kernel
theorem dX5_leftStranded_13 : decode cX5_leftStranded 13 = .ok (.getfield 16, 3) := by decide +kernel
theorem dX5_leftStranded_16 : decode cX5_leftStranded 16 = .ok (.invokevirtual 148, 3) := by decide +kernel
theorem dX5_leftStranded_19 : decode cX5_leftStranded 19 = .ok (.pop, 1) := by decide +kernel
theorem dX5_leftStranded_20 : decode cX5_leftStranded 20 = .ok (.aload_n 0, 1) := by decide +kernel
theorem dX5_leftStranded_21 : decode cX5_leftStranded 21 = .ok (.getfield 40, 3) := by decide +kernel
theorem dX5_leftStranded_24 : decode cX5_leftStranded 24 = .ok (.invokevirtual 199, 3) := by decide +kernel
theorem dX5_leftStranded_27 : decode cX5_leftStranded 27 = .ok (.ireturn, 1) := by decide +kernel
theorem dX5_daysWhole_0 : decode cX5_daysWhole 0 = .ok (.aload_n 0, 1) := by decide +kernel
theorem dX5_daysWhole_1 : decode cX5_daysWhole 1 = .ok (.iload_n 1, 1) := by decide +kernel
theorem dX5_daysWhole_2 : decode cX5_daysWhole 2 = .ok (.invokevirtual 87, 3) := by decide +kernel
theorem dX5_daysWhole_5 : decode cX5_daysWhole 5 = .ok (.aload_n 0, 1) := by decide +kernel
theorem dX5_daysWhole_6 : decode cX5_daysWhole 6 = .ok (.getfield 40, 3) := by decide +kernel
theorem dX5_daysWhole_9 : decode cX5_daysWhole 9 = .ok (.aload_n 0, 1) := by decide +kernel
theorem dX5_daysWhole_10 : decode cX5_daysWhole 10 = .ok (.getfield 10, 3) := by decide +kernel
theorem dX5_daysWhole_13 : decode cX5_daysWhole 13 = .ok (.invokevirtual 127, 3) := by decide +kernel
theorem dX5_daysWhole_16 : decode cX5_daysWhole 16 = .ok (.aload_n 0, 1) := by decide +kernel
theorem dX5_daysWhole_17 : decode cX5_daysWhole 17 = .ok (.getfield 40, 3) := by decide +kernel
theorem dX5_daysWhole_20 : decode cX5_daysWhole 20 = .ok (.iload_n 1, 1) := by decide +kernel
theorem dX5_daysWhole_21 : decode cX5_daysWhole 21 = .ok (.invokevirtual 131, 3) := by decide +kernel
theorem dX5_daysWhole_24 : decode cX5_daysWhole 24 = .ok (.istore_n 2, 1) := by decide +kernel
theorem dX5_daysWhole_25 : decode cX5_daysWhole 25 = .ok (.aload_n 0, 1) := by decide +kernel
theorem dX5_daysWhole_26 : decode cX5_daysWhole 26 = .ok (.getfield 40, 3) := by decide +kernel
theorem dX5_daysWhole_29 : decode cX5_daysWhole 29 = .ok (.iload_n 2, 1) := by decide +kernel
theorem dX5_daysWhole_30 : decode cX5_daysWhole 30 = .ok (.invokevirtual 134, 3) := by decide +kernel
theorem dX5_daysWhole_33 : decode cX5_daysWhole 33 = .ok (.ifCond .ne 5, 3) := by decide +kernel
theorem dX5_daysWhole_36 : decode cX5_daysWhole 36 = .ok (.iconst (-1), 1) := by decide +kernel
theorem dX5_daysWhole_37 : decode cX5_daysWhole 37 = .ok (.ireturn, 1) := by decide +kernel
theorem dX5_daysWhole_38 : decode cX5_daysWhole 38 = .ok (.aload_n 0, 1) := by decide +kernel
theorem dX5_daysWhole_39 : decode cX5_daysWhole 39 = .ok (.getfield 16, 3) := by decide +kernel
theorem dX5_daysWhole_42 : decode cX5_daysWhole 42 = .ok (.aload_n 0, 1) := by decide +kernel
theorem dX5_daysWhole_43 : decode cX5_daysWhole 43 = .ok (.getfield 10, 3) := by decide +kernel
theorem dX5_daysWhole_46 : decode cX5_daysWhole 46 = .ok (.invokevirtual 196, 3) := by decide +kernel
theorem dX5_daysWhole_49 : decode cX5_daysWhole 49 = .ok (.iconst 1, 1) := by decide +kernel
theorem dX5_daysWhole_50 : decode cX5_daysWhole 50 = .ok (.istore_n 3, 1) := by decide +kernel
theorem dX5_daysWhole_51 : decode cX5_daysWhole 51 = .ok (.iload_n 3, 1) := by decide +kernel
theorem dX5_daysWhole_52 : decode cX5_daysWhole 52 = .ok (.bipush 60, 2) := by decide +kernel
theorem dX5_daysWhole_54 : decode cX5_daysWhole 54 = .ok (.if_icmp .gt 30, 3) := by decide +kernel
theorem dX5_daysWhole_57 : decode cX5_daysWhole 57 = .ok (.aload_n 0, 1) := by decide +kernel
theorem dX5_daysWhole_58 : decode cX5_daysWhole 58 = .ok (.getfield 16, 3) := by decide +kernel
theorem dX5_daysWhole_61 : decode cX5_daysWhole 61 = .ok (.invokevirtual 159, 3) := by decide +kernel
theorem dX5_daysWhole_64 : decode cX5_daysWhole 64 = .ok (.aload_n 0, 1) := by decide +kernel
theorem dX5_daysWhole_65 : decode cX5_daysWhole 65 = .ok (.aload_n 0, 1) := by decide +kernel
theorem dX5_daysWhole_66 : decode cX5_daysWhole 66 = .ok (.getfield 16, 3) := by decide +kernel
theorem dX5_daysWhole_69 : decode cX5_daysWhole 69 = .ok (.iload_n 2, 1) := by decide +kernel
theorem dX5_daysWhole_70 : decode cX5_daysWhole 70 = .ok (.invokevirtual 202, 3) := by decide +kernel
theorem dX5_daysWhole_73 : decode cX5_daysWhole 73 = .ok (.ifCond .eq 5, 3) := by decide +kernel
theorem dX5_daysWhole_76 : decode cX5_daysWhole 76 = .ok (.iload_n 3, 1) := by decide +kernel
theorem dX5_daysWhole_77 : decode cX5_daysWhole 77 = .ok (.ireturn, 1) := by decide +kernel
theorem dX5_daysWhole_78 : decode cX5_daysWhole 78 = .ok (.iinc 3 1, 3) := by decide +kernel
theorem dX5_daysWhole_81 : decode cX5_daysWhole 81 = .ok (.goto (-30), 3) := by decide +kernel
theorem dX5_daysWhole_84 : decode cX5_daysWhole 84 = .ok (.iconst (-1), 1) := by decide +kernel
theorem dX5_daysWhole_85 : decode cX5_daysWhole 85 = .ok (.ireturn, 1) := by decide +kernel
theorem dX5_daysToWater_0 : decode cX5_daysToWater 0 = .ok (.aload_n 0, 1) := by decide +kernel
theorem dX5_daysToWater_1 : decode cX5_daysToWater 1 = .ok (.getfield 16, 3) := by decide +kernel
theorem dX5_daysToWater_4 : decode cX5_daysToWater 4 = .ok (.aload_n 0, 1) := by decide +kernel
theorem dX5_daysToWater_5 : decode cX5_daysToWater 5 = .ok (.getfield 10, 3) := by decide +kernel
theorem dX5_daysToWater_8 : decode cX5_daysToWater 8 = .ok (.invokevirtual 196, 3) := by decide +kernel
theorem dX5_daysToWater_11 : decode cX5_daysToWater 11 = .ok (.iconst 0, 1) := by decide +kernel
theorem dX5_daysToWater_12 : decode cX5_daysToWater 12 = .ok (.istore_n 1, 1) := by decide +kernel
theorem dX5_daysToWater_13 : decode cX5_daysToWater 13 = .ok (.iload_n 1, 1) := by decide +kernel
theorem dX5_daysToWater_14 : decode cX5_daysToWater 14 = .ok (.bipush 60, 2) := by decide +kernel
theorem dX5_daysToWater_16 : decode cX5_daysToWater 16 = .ok (.if_icmp .gt 28, 3) := by decide +kernel
theorem dX5_daysToWater_19 : decode cX5_daysToWater 19 = .ok (.aload_n 0, 1) := by decide +kernel
theorem dX5_daysToWater_20 : decode cX5_daysToWater 20 = .ok (.getfield 16, 3) := by decide +kernel
theorem dX5_daysToWater_23 : decode cX5_daysToWater 23 = .ok (.invokevirtual 206, 3) := by decide +kernel
theorem dX5_daysToWater_26 : decode cX5_daysToWater 26 = .ok (.ifCond .ne 5, 3) := by decide +kernel
theorem dX5_daysToWater_29 : decode cX5_daysToWater 29 = .ok (.iload_n 1, 1) := by decide +kernel
theorem dX5_daysToWater_30 : decode cX5_daysToWater 30 = .ok (.ireturn, 1) := by decide +kernel
theorem dX5_daysToWater_31 : decode cX5_daysToWater 31 = .ok (.aload_n 0, 1) := by decide +kernel
theorem dX5_daysToWater_32 : decode cX5_daysToWater 32 = .ok (.getfield 16, 3) := by decide +kernel
theorem dX5_daysToWater_35 : decode cX5_daysToWater 35 = .ok (.invokevirtual 159, 3) := by decide +kernel
theorem dX5_daysToWater_38 : decode cX5_daysToWater 38 = .ok (.iinc 1 1, 3) := by decide +kernel
theorem dX5_daysToWater_41 : decode cX5_daysToWater 41 = .ok (.goto (-28), 3) := by decide +kernel
theorem dX5_daysToWater_44 : decode cX5_daysToWater 44 = .ok (.iconst (-1), 1) := by decide +kernel
theorem dX5_daysToWater_45 : decode cX5_daysToWater 45 = .ok (.ireturn, 1) := by decide +kernel
theorem dX5_barredBy_0 : decode cX5_barredBy 0 = .ok (.aload_n 0, 1) := by decide +kernel
theorem dX5_barredBy_1 : decode cX5_barredBy 1 = .ok (.invokevirtual 181, 3) := by decide +kernel
theorem dX5_barredBy_4 : decode cX5_barredBy 4 = .ok (.aload_n 0, 1) := by decide +kernel
theorem dX5_barredBy_5 : decode cX5_barredBy 5 = .ok (.invokevirtual 209, 3) := by decide +kernel
theorem dX5_barredBy_8 : decode cX5_barredBy 8 = .ok (.istore_n 1, 1) := by decide +kernel
theorem dX5_barredBy_9 : decode cX5_barredBy 9 = .ok (.iload_n 1, 1) := by decide +kernel
theorem dX5_barredBy_10 : decode cX5_barredBy 10 = .ok (.iconst (-1), 1) := by decide +kernel
theorem dX5_barredBy_11 : decode cX5_barredBy 11 = .ok (.if_icmp .ne 5, 3) := by decide +kernel
theorem dX5_barredBy_14 : decode cX5_barredBy 14 = .ok (.iconst (-1), 1) := by decide +kernel
theorem dX5_barredBy_15 : decode cX5_barredBy 15 = .ok (.ireturn, 1) := by decide +kernel
theorem dX5_barredBy_16 : decode cX5_barredBy 16 = .ok (.aload_n 0, 1) := by decide +kernel
theorem dX5_barredBy_17 : decode cX5_barredBy 17 = .ok (.getfield 16, 3) := by decide +kernel
theorem dX5_barredBy_20 : decode cX5_barredBy 20 = .ok (.aload_n 0, 1) := by decide +kernel
theorem dX5_barredBy_21 : decode cX5_barredBy 21 = .ok (.getfield 10, 3) := by decide +kernel
theorem dX5_barredBy_24 : decode cX5_barredBy 24 = .ok (.invokevirtual 196, 3) := by decide +kernel
theorem dX5_barredBy_27 : decode cX5_barredBy 27 = .ok (.iconst 0, 1) := by decide +kernel
theorem dX5_barredBy_28 : decode cX5_barredBy 28 = .ok (.istore_n 2, 1) := by decide +kernel
theorem dX5_barredBy_29 : decode cX5_barredBy 29 = .ok (.iload_n 2, 1) := by decide +kernel
theorem dX5_barredBy_30 : decode cX5_barredBy 30 = .ok (.aload_n 0, 1) := by decide +kernel
theorem dX5_barredBy_31 : decode cX5_barredBy 31 = .ok (.getfield 10, 3) := by decide +kernel
theorem dX5_barredBy_34 : decode cX5_barredBy 34 = .ok (.invokevirtual 212, 3) := by decide +kernel
theorem dX5_barredBy_37 : decode cX5_barredBy 37 = .ok (.if_icmp .ge 43, 3) := by decide +kernel
theorem dX5_barredBy_40 : decode cX5_barredBy 40 = .ok (.aload_n 0, 1) := by decide +kernel
theorem dX5_barredBy_41 : decode cX5_barredBy 41 = .ok (.getfield 10, 3) := by decide +kernel
theorem dX5_barredBy_44 : decode cX5_barredBy 44 = .ok (.iload_n 2, 1) := by decide +kernel
theorem dX5_barredBy_45 : decode cX5_barredBy 45 = .ok (.invokevirtual 215, 3) := by decide +kernel
theorem dX5_barredBy_48 : decode cX5_barredBy 48 = .ok (.ifCond .eq 26, 3) := by decide +kernel
theorem dX5_barredBy_51 : decode cX5_barredBy 51 = .ok (.aload_n 0, 1) := by decide +kernel
theorem dX5_barredBy_52 : decode cX5_barredBy 52 = .ok (.getfield 40, 3) := by decide +kernel
theorem dX5_barredBy_55 : decode cX5_barredBy 55 = .ok (.iload_n 2, 1) := by decide +kernel
theorem dX5_barredBy_56 : decode cX5_barredBy 56 = .ok (.invokevirtual 131, 3) := by decide +kernel
theorem dX5_barredBy_59 : decode cX5_barredBy 59 = .ok (.iload_n 1, 1) := by decide +kernel
theorem dX5_barredBy_60 : decode cX5_barredBy 60 = .ok (.if_icmp .eq 14, 3) := by decide +kernel
theorem dX5_barredBy_63 : decode cX5_barredBy 63 = .ok (.aload_n 0, 1) := by decide +kernel
theorem dX5_barredBy_64 : decode cX5_barredBy 64 = .ok (.iload_n 2, 1) := by decide +kernel
theorem dX5_barredBy_65 : decode cX5_barredBy 65 = .ok (.iload_n 1, 1) := by decide +kernel
theorem dX5_barredBy_66 : decode cX5_barredBy 66 = .ok (.invokevirtual 218, 3) := by decide +kernel
theorem dX5_barredBy_69 : decode cX5_barredBy 69 = .ok (.ifCond .eq 5, 3) := by decide +kernel
theorem dX5_barredBy_72 : decode cX5_barredBy 72 = .ok (.iload_n 2, 1) := by decide +kernel
theorem dX5_barredBy_73 : decode cX5_barredBy 73 = .ok (.ireturn, 1) := by decide +kernel
theorem dX5_barredBy_74 : decode cX5_barredBy 74 = .ok (.iinc 2 1, 3) := by decide +kernel
theorem dX5_barredBy_77 : decode cX5_barredBy 77 = .ok (.goto (-48), 3) := by decide +kernel
theorem dX5_barredBy_80 : decode cX5_barredBy 80 = .ok (.iconst (-1), 1) := by decide +kernel
theorem dX5_barredBy_81 : decode cX5_barredBy 81 = .ok (.ireturn, 1) := by decide +kernel
theorem dX5_harvest_0 : decode cX5_harvest 0 = .ok (.aload_n 0, 1) := by decide +kernel
theorem dX5_harvest_1 : decode cX5_harvest 1 = .ok (.getfield 10, 3) := by decide +kernel
theorem dX5_harvest_4 : decode cX5_harvest 4 = .ok (.getfield 84, 3) := by decide +kernel
theorem dX5_harvest_7 : decode cX5_harvest 7 = .ok (.ifCond .ne 7, 3) := by decide +kernel
theorem dX5_harvest_10 : decode cX5_harvest 10 = .ok (.dconst 0, 1) := by decide +kernel
theorem dX5_harvest_11 : decode cX5_harvest 11 = .ok (.goto 20, 3) := by decide +kernel
theorem dX5_harvest_14 : decode cX5_harvest 14 = .ok (.aload_n 0, 1) := by decide +kernel
theorem dX5_harvest_15 : decode cX5_harvest 15 = .ok (.getfield 10, 3) := by decide +kernel
theorem dX5_harvest_18 : decode cX5_harvest 18 = .ok (.getfield 221, 3) := by decide +kernel
theorem dX5_harvest_21 : decode cX5_harvest 21 = .ok (.i2d, 1) := by decide +kernel
theorem dX5_harvest_22 : decode cX5_harvest 22 = .ok (.aload_n 0, 1) := by decide +kernel
theorem dX5_harvest_23 : decode cX5_harvest 23 = .ok (.getfield 10, 3) := by decide +kernel
theorem dX5_harvest_26 : decode cX5_harvest 26 = .ok (.getfield 84, 3) := by decide +kernel
theorem dX5_harvest_29 : decode cX5_harvest 29 = .ok (.i2d, 1) := by decide +kernel
theorem dX5_harvest_30 : decode cX5_harvest 30 = .ok (.ddiv, 1) := by decide +kernel
theorem dX5_harvest_31 : decode cX5_harvest 31 = .ok (.dreturn, 1) := by decide +kernel
theorem dX5_append_0 : decode cX5_append 0 = .ok (.iload_n 1, 1) := by decide +kernel
theorem dX5_append_1 : decode cX5_append 1 = .ok (.iconst 0, 1) := by decide +kernel
theorem dX5_append_2 : decode cX5_append 2 = .ok (.bipush 127, 2) := by decide +kernel
theorem dX5_append_4 : decode cX5_append 4 = .ok (.invokestatic 70, 3) := by decide +kernel
theorem dX5_append_7 : decode cX5_append 7 = .ok (.ifCond .eq 13, 3) := by decide +kernel
theorem dX5_append_10 : decode cX5_append 10 = .ok (.new 74, 3) := by decide +kernel
theorem dX5_append_13 : decode cX5_append 13 = .ok (.dup, 1) := by decide +kernel
theorem dX5_append_14 : decode cX5_append 14 = .ok (.ldc 224, 2) := by decide +kernel
theorem dX5_append_16 : decode cX5_append 16 = .ok (.invokespecial 78, 3) := by decide +kernel
theorem dX5_append_19 : decode cX5_append 19 = .ok (.athrow, 1) := by decide +kernel
theorem dX5_append_20 : decode cX5_append 20 = .ok (.aload_n 0, 1) := by decide +kernel
theorem dX5_append_21 : decode cX5_append 21 = .ok (.getfield 33, 3) := by decide +kernel
theorem dX5_append_24 : decode cX5_append 24 = .ok (.getfield 226, 3) := by decide +kernel
theorem dX5_append_27 : decode cX5_append 27 = .ok (.bipush 60, 2) := by decide +kernel
theorem dX5_append_29 : decode cX5_append 29 = .ok (.if_icmp .lt 13, 3) := by decide +kernel
theorem dX5_append_32 : decode cX5_append 32 = .ok (.new 99, 3) := by decide +kernel
theorem dX5_append_35 : decode cX5_append 35 = .ok (.dup, 1) := by decide +kernel
theorem dX5_append_36 : decode cX5_append 36 = .ok (.ldc 229, 2) := by decide +kernel
theorem dX5_append_38 : decode cX5_append 38 = .ok (.invokespecial 103, 3) := by decide +kernel
theorem dX5_append_41 : decode cX5_append 41 = .ok (.athrow, 1) := by decide +kernel
theorem dX5_append_42 : decode cX5_append 42 = .ok (.aload_n 0, 1) := by decide +kernel
theorem dX5_append_43 : decode cX5_append 43 = .ok (.getfield 33, 3) := by decide +kernel
theorem dX5_append_46 : decode cX5_append 46 = .ok (.iload_n 1, 1) := by decide +kernel
theorem dX5_append_47 : decode cX5_append 47 = .ok (.invokevirtual 231, 3) := by decide +kernel
theorem dX5_append_50 : decode cX5_append 50 = .ok (.aload_n 0, 1) := by decide +kernel
theorem dX5_append_51 : decode cX5_append 51 = .ok (.getfield 33, 3) := by decide +kernel
theorem dX5_append_54 : decode cX5_append 54 = .ok (.getfield 226, 3) := by decide +kernel
theorem dX5_append_57 : decode cX5_append 57 = .ok (.ireturn, 1) := by decide +kernel
theorem dX5_clearText_0 : decode cX5_clearText 0 = .ok (.aload_n 0, 1) := by decide +kernel
theorem dX5_clearText_1 : decode cX5_clearText 1 = .ok (.getfield 33, 3) := by decide +kernel
theorem dX5_clearText_4 : decode cX5_clearText 4 = .ok (.getfield 226, 3) := by decide +kernel
theorem dX5_clearText_7 : decode cX5_clearText 7 = .ok (.istore_n 1, 1) := by decide +kernel
theorem dX5_clearText_8 : decode cX5_clearText 8 = .ok (.aload_n 0, 1) := by decide +kernel
theorem dX5_clearText_9 : decode cX5_clearText 9 = .ok (.getfield 33, 3) := by decide +kernel
theorem dX5_clearText_12 : decode cX5_clearText 12 = .ok (.iconst 0, 1) := by decide +kernel
theorem dX5_clearText_13 : decode cX5_clearText 13 = .ok (.putfield 226, 3) := by decide +kernel
theorem dX5_clearText_16 : decode cX5_clearText 16 = .ok (.iload_n 1, 1) := by decide +kernel
theorem dX5_clearText_17 : decode cX5_clearText 17 = .ok (.ireturn, 1) := by decide +kernel
theorem dX5_parse_0 : decode cX5_parse 0 = .ok (.aload_n 0, 1) := by decide +kernel
theorem dX5_parse_1 : decode cX5_parse 1 = .ok (.getfield 33, 3) := by decide +kernel
theorem dX5_parse_4 : decode cX5_parse 4 = .ok (.invokevirtual 233, 3) := by decide +kernel
theorem dX5_parse_7 : decode cX5_parse 7 = .ok (.istore_n 1, 1) := by decide +kernel
theorem dX5_parse_8 : decode cX5_parse 8 = .ok (.iload_n 1, 1) := by decide +kernel
theorem dX5_parse_9 : decode cX5_parse 9 = .ok (.iconst (-1), 1) := by decide +kernel
theorem dX5_parse_10 : decode cX5_parse 10 = .ok (.if_icmp .eq 8, 3) := by decide +kernel
theorem dX5_parse_13 : decode cX5_parse 13 = .ok (.bipush (-10), 2) := by decide +kernel
theorem dX5_parse_15 : decode cX5_parse 15 = .ok (.iload_n 1, 1) := by decide +kernel
theorem dX5_parse_16 : decode cX5_parse 16 = .ok (.isub, 1) := by decide +kernel
theorem dX5_parse_17 : decode cX5_parse 17 = .ok (.ireturn, 1) := by decide +kernel
theorem dX5_parse_18 : decode cX5_parse 18 = .ok (.aload_n 0, 1) := by decide +kernel
theorem dX5_parse_19 : decode cX5_parse 19 = .ok (.invokevirtual 81, 3) := by decide +kernel
theorem dX5_parse_22 : decode cX5_parse 22 = .ok (.aload_n 0, 1) := by decide +kernel
theorem dX5_parse_23 : decode cX5_parse 23 = .ok (.getfield 10, 3) := by decide +kernel
theorem dX5_parse_26 : decode cX5_parse 26 = .ok (.aload_n 0, 1) := by decide +kernel
theorem dX5_parse_27 : decode cX5_parse 27 = .ok (.getfield 33, 3) := by decide +kernel
theorem dX5_parse_30 : decode cX5_parse 30 = .ok (.getfield 236, 3) := by decide +kernel
theorem dX5_parse_33 : decode cX5_parse 33 = .ok (.aload_n 0, 1) := by decide +kernel
theorem dX5_parse_34 : decode cX5_parse 34 = .ok (.getfield 33, 3) := by decide +kernel
theorem dX5_parse_37 : decode cX5_parse 37 = .ok (.getfield 239, 3) := by decide +kernel
theorem dX5_parse_40 : decode cX5_parse 40 = .ok (.invokevirtual 63, 3) := by decide +kernel
theorem dX5_parse_43 : decode cX5_parse 43 = .ok (.iconst 0, 1) := by decide +kernel
theorem dX5_parse_44 : decode cX5_parse 44 = .ok (.istore_n 2, 1) := by decide +kernel
theorem dX5_parse_45 : decode cX5_parse 45 = .ok (.iload_n 2, 1) := by decide +kernel
theorem dX5_parse_46 : decode cX5_parse 46 = .ok (.aload_n 0, 1) := by decide +kernel
theorem dX5_parse_47 : decode cX5_parse 47 = .ok (.getfield 10, 3) := by decide +kernel
theorem dX5_parse_50 : decode cX5_parse 50 = .ok (.invokevirtual 212, 3) := by decide +kernel
theorem dX5_parse_53 : decode cX5_parse 53 = .ok (.if_icmp .ge 40, 3) := by decide +kernel
theorem dX5_parse_56 : decode cX5_parse 56 = .ok (.aload_n 0, 1) := by decide +kernel
theorem dX5_parse_57 : decode cX5_parse 57 = .ok (.getfield 10, 3) := by decide +kernel
theorem dX5_parse_60 : decode cX5_parse 60 = .ok (.iload_n 2, 1) := by decide +kernel
theorem dX5_parse_61 : decode cX5_parse 61 = .ok (.aload_n 0, 1) := by decide +kernel
theorem dX5_parse_62 : decode cX5_parse 62 = .ok (.getfield 33, 3) := by decide +kernel
theorem dX5_parse_65 : decode cX5_parse 65 = .ok (.aload_n 0, 1) := by decide +kernel
theorem dX5_parse_66 : decode cX5_parse 66 = .ok (.getfield 10, 3) := by decide +kernel
theorem dX5_parse_69 : decode cX5_parse 69 = .ok (.iload_n 2, 1) := by decide +kernel
theorem dX5_parse_70 : decode cX5_parse 70 = .ok (.invokevirtual 242, 3) := by decide +kernel
theorem dX5_parse_73 : decode cX5_parse 73 = .ok (.aload_n 0, 1) := by decide +kernel
theorem dX5_parse_74 : decode cX5_parse 74 = .ok (.getfield 10, 3) := by decide +kernel
theorem dX5_parse_77 : decode cX5_parse 77 = .ok (.iload_n 2, 1) := by decide +kernel
theorem dX5_parse_78 : decode cX5_parse 78 = .ok (.invokevirtual 245, 3) := by decide +kernel
theorem dX5_parse_81 : decode cX5_parse 81 = .ok (.invokevirtual 248, 3) := by decide +kernel
theorem dX5_parse_84 : decode cX5_parse 84 = .ok (.invokevirtual 104, 3) := by decide +kernel
theorem dX5_parse_87 : decode cX5_parse 87 = .ok (.iinc 2 1, 3) := by decide +kernel
theorem dX5_parse_90 : decode cX5_parse 90 = .ok (.goto (-45), 3) := by decide +kernel
theorem dX5_parse_93 : decode cX5_parse 93 = .ok (.aload_n 0, 1) := by decide +kernel
theorem dX5_parse_94 : decode cX5_parse 94 = .ok (.getfield 10, 3) := by decide +kernel
theorem dX5_parse_97 : decode cX5_parse 97 = .ok (.getfield 84, 3) := by decide +kernel
theorem dX5_parse_100 : decode cX5_parse 100 = .ok (.ireturn, 1) := by decide +kernel
theorem dX5_undo_0 : decode cX5_undo 0 = .ok (.aload_n 0, 1) := by decide +kernel
theorem dX5_undo_1 : decode cX5_undo 1 = .ok (.getfield 27, 3) := by decide +kernel
theorem dX5_undo_4 : decode cX5_undo 4 = .ok (.ifCond .gt 13, 3) := by decide +kernel
theorem dX5_undo_7 : decode cX5_undo 7 = .ok (.new 99, 3) := by decide +kernel
theorem dX5_undo_10 : decode cX5_undo 10 = .ok (.dup, 1) := by decide +kernel
theorem dX5_undo_11 : decode cX5_undo 11 = .ok (.ldc 251, 2) := by decide +kernel
theorem dX5_undo_13 : decode cX5_undo 13 = .ok (.invokespecial 103, 3) := by decide +kernel
theorem dX5_undo_16 : decode cX5_undo 16 = .ok (.athrow, 1) := by decide +kernel
theorem dX5_undo_17 : decode cX5_undo 17 = .ok (.aload_n 0, 1) := by decide +kernel
theorem dX5_undo_18 : decode cX5_undo 18 = .ok (.aload_n 0, 1) := by decide +kernel
theorem dX5_undo_19 : decode cX5_undo 19 = .ok (.getfield 23, 3) := by decide +kernel
theorem dX5_undo_22 : decode cX5_undo 22 = .ok (.iconst 4, 1) := by decide +kernel
theorem dX5_undo_23 : decode cX5_undo 23 = .ok (.iadd, 1) := by decide +kernel
theorem dX5_undo_24 : decode cX5_undo 24 = .ok (.iconst 1, 1) := by decide +kernel
theorem dX5_undo_25 : decode cX5_undo 25 = .ok (.isub, 1) := by decide +kernel
theorem dX5_undo_26 : decode cX5_undo 26 = .ok (.iconst 4, 1) := by decide +kernel
theorem dX5_undo_27 : decode cX5_undo 27 = .ok (.irem, 1) := by decide +kernel
theorem dX5_undo_28 : decode cX5_undo 28 = .ok (.putfield 23, 3) := by decide +kernel
theorem dX5_undo_31 : decode cX5_undo 31 = .ok (.aload_n 0, 1) := by decide +kernel
theorem dX5_undo_32 : decode cX5_undo 32 = .ok (.dup, 1) := by decide +kernel
theorem dX5_undo_33 : decode cX5_undo 33 = .ok (.getfield 27, 3) := by decide +kernel
theorem dX5_undo_36 : decode cX5_undo 36 = .ok (.iconst 1, 1) := by decide +kernel
theorem dX5_undo_37 : decode cX5_undo 37 = .ok (.isub, 1) := by decide +kernel
theorem dX5_undo_38 : decode cX5_undo 38 = .ok (.putfield 27, 3) := by decide +kernel
theorem dX5_undo_41 : decode cX5_undo 41 = .ok (.aload_n 0, 1) := by decide +kernel
theorem dX5_undo_42 : decode cX5_undo 42 = .ok (.aload_n 0, 1) := by decide +kernel
theorem dX5_undo_43 : decode cX5_undo 43 = .ok (.getfield 23, 3) := by decide +kernel
theorem dX5_undo_46 : decode cX5_undo 46 = .ok (.invokevirtual 253, 3) := by decide +kernel
theorem dX5_undo_49 : decode cX5_undo 49 = .ok (.astore_n 1, 1) := by decide +kernel
theorem dX5_undo_50 : decode cX5_undo 50 = .ok (.aload_n 1, 1) := by decide +kernel
theorem dX5_undo_51 : decode cX5_undo 51 = .ok (.ifnull 11, 3) := by decide +kernel
theorem dX5_undo_54 : decode cX5_undo 54 = .ok (.aload_n 0, 1) := by decide +kernel
theorem dX5_undo_55 : decode cX5_undo 55 = .ok (.getfield 10, 3) := by decide +kernel
theorem dX5_undo_58 : decode cX5_undo 58 = .ok (.aload_n 1, 1) := by decide +kernel
theorem dX5_undo_59 : decode cX5_undo 59 = .ok (.invokevirtual 196, 3) := by decide +kernel
theorem dX5_undo_62 : decode cX5_undo 62 = .ok (.aload_n 0, 1) := by decide +kernel
theorem dX5_undo_63 : decode cX5_undo 63 = .ok (.getfield 27, 3) := by decide +kernel
theorem dX5_undo_66 : decode cX5_undo 66 = .ok (.ireturn, 1) := by decide +kernel
theorem dX5_digest_0 : decode cX5_digest 0 = .ok (.ldc2_w 257, 3) := by decide +kernel
theorem dX5_digest_3 : decode cX5_digest 3 = .ok (.aload_n 0, 1) := by decide +kernel
theorem dX5_digest_4 : decode cX5_digest 4 = .ok (.getfield 33, 3) := by decide +kernel
theorem dX5_digest_7 : decode cX5_digest 7 = .ok (.getfield 226, 3) := by decide +kernel
theorem dX5_digest_10 : decode cX5_digest 10 = .ok (.i2l, 1) := by decide +kernel
theorem dX5_digest_11 : decode cX5_digest 11 = .ok (.ladd, 1) := by decide +kernel
theorem dX5_digest_12 : decode cX5_digest 12 = .ok (.lstore_n 1, 1) := by decide +kernel
theorem dX5_digest_13 : decode cX5_digest 13 = .ok (.aload_n 0, 1) := by decide +kernel
theorem dX5_digest_14 : decode cX5_digest 14 = .ok (.invokevirtual 181, 3) := by decide +kernel
theorem dX5_digest_17 : decode cX5_digest 17 = .ok (.iconst 0, 1) := by decide +kernel
theorem dX5_digest_18 : decode cX5_digest 18 = .ok (.istore_n 3, 1) := by decide +kernel
theorem dX5_digest_19 : decode cX5_digest 19 = .ok (.iload_n 3, 1) := by decide +kernel
theorem dX5_digest_20 : decode cX5_digest 20 = .ok (.bipush 14, 2) := by decide +kernel
theorem dX5_digest_22 : decode cX5_digest 22 = .ok (.if_icmp .ge 22, 3) := by decide +kernel
theorem dX5_digest_25 : decode cX5_digest 25 = .ok (.ldc2_w 259, 3) := by decide +kernel
theorem dX5_digest_28 : decode cX5_digest 28 = .ok (.lload_n 1, 1) := by decide +kernel
theorem dX5_digest_29 : decode cX5_digest 29 = .ok (.lmul, 1) := by decide +kernel
theorem dX5_digest_30 : decode cX5_digest 30 = .ok (.aload_n 0, 1) := by decide +kernel
theorem dX5_digest_31 : decode cX5_digest 31 = .ok (.iload_n 3, 1) := by decide +kernel
theorem dX5_digest_32 : decode cX5_digest 32 = .ok (.invokevirtual 184, 3) := by decide +kernel
theorem dX5_digest_35 : decode cX5_digest 35 = .ok (.i2l, 1) := by decide +kernel
theorem dX5_digest_36 : decode cX5_digest 36 = .ok (.ladd, 1) := by decide +kernel
theorem dX5_digest_37 : decode cX5_digest 37 = .ok (.lstore_n 1, 1) := by decide +kernel
theorem dX5_digest_38 : decode cX5_digest 38 = .ok (.iinc 3 1, 3) := by decide +kernel
theorem dX5_digest_41 : decode cX5_digest 41 = .ok (.goto (-22), 3) := by decide +kernel
theorem dX5_digest_44 : decode cX5_digest 44 = .ok (.iconst 0, 1) := by decide +kernel
theorem dX5_digest_45 : decode cX5_digest 45 = .ok (.istore_n 3, 1) := by decide +kernel
theorem dX5_digest_46 : decode cX5_digest 46 = .ok (.iload_n 3, 1) := by decide +kernel
theorem dX5_digest_47 : decode cX5_digest 47 = .ok (.aload_n 0, 1) := by decide +kernel
theorem dX5_digest_48 : decode cX5_digest 48 = .ok (.getfield 10, 3) := by decide +kernel
theorem dX5_digest_51 : decode cX5_digest 51 = .ok (.invokevirtual 212, 3) := by decide +kernel
theorem dX5_digest_54 : decode cX5_digest 54 = .ok (.if_icmp .ge 68, 3) := by decide +kernel
theorem dX5_digest_57 : decode cX5_digest 57 = .ok (.iconst 0, 1) := by decide +kernel
theorem dX5_digest_58 : decode cX5_digest 58 = .ok (.istore 4, 2) := by decide +kernel
theorem dX5_digest_60 : decode cX5_digest 60 = .ok (.iload 4, 2) := by decide +kernel
theorem dX5_digest_62 : decode cX5_digest 62 = .ok (.bipush 7, 2) := by decide +kernel
theorem dX5_digest_64 : decode cX5_digest 64 = .ok (.if_icmp .ge 24, 3) := by decide +kernel
theorem dX5_digest_67 : decode cX5_digest 67 = .ok (.ldc2_w 259, 3) := by decide +kernel
theorem dX5_digest_70 : decode cX5_digest 70 = .ok (.lload_n 1, 1) := by decide +kernel
theorem dX5_digest_71 : decode cX5_digest 71 = .ok (.lmul, 1) := by decide +kernel
theorem dX5_digest_72 : decode cX5_digest 72 = .ok (.aload_n 0, 1) := by decide +kernel
theorem dX5_digest_73 : decode cX5_digest 73 = .ok (.iload_n 3, 1) := by decide +kernel
theorem dX5_digest_74 : decode cX5_digest 74 = .ok (.iload 4, 2) := by decide +kernel
theorem dX5_digest_76 : decode cX5_digest 76 = .ok (.invokevirtual 164, 3) := by decide +kernel
theorem dX5_digest_79 : decode cX5_digest 79 = .ok (.i2l, 1) := by decide +kernel
theorem dX5_digest_80 : decode cX5_digest 80 = .ok (.ladd, 1) := by decide +kernel
theorem dX5_digest_81 : decode cX5_digest 81 = .ok (.lstore_n 1, 1) := by decide +kernel
theorem dX5_digest_82 : decode cX5_digest 82 = .ok (.iinc 4 1, 3) := by decide +kernel
theorem dX5_digest_85 : decode cX5_digest 85 = .ok (.goto (-25), 3) := by decide +kernel
theorem dX5_digest_88 : decode cX5_digest 88 = .ok (.ldc2_w 259, 3) := by decide +kernel
theorem dX5_digest_91 : decode cX5_digest 91 = .ok (.lload_n 1, 1) := by decide +kernel
theorem dX5_digest_92 : decode cX5_digest 92 = .ok (.lmul, 1) := by decide +kernel
theorem dX5_digest_93 : decode cX5_digest 93 = .ok (.aload_n 0, 1) := by decide +kernel
theorem dX5_digest_94 : decode cX5_digest 94 = .ok (.iload_n 3, 1) := by decide +kernel
theorem dX5_digest_95 : decode cX5_digest 95 = .ok (.iconst 3, 1) := by decide +kernel
theorem dX5_digest_96 : decode cX5_digest 96 = .ok (.invokevirtual 170, 3) := by decide +kernel
theorem dX5_digest_99 : decode cX5_digest 99 = .ok (.i2l, 1) := by decide +kernel
theorem dX5_digest_100 : decode cX5_digest 100 = .ok (.ladd, 1) := by decide +kernel
theorem dX5_digest_101 : decode cX5_digest 101 = .ok (.lstore_n 1, 1) := by decide +kernel
theorem dX5_digest_102 : decode cX5_digest 102 = .ok (.ldc2_w 259, 3) := by decide +kernel
theorem dX5_digest_105 : decode cX5_digest 105 = .ok (.lload_n 1, 1) := by decide +kernel
theorem dX5_digest_106 : decode cX5_digest 106 = .ok (.lmul, 1) := by decide +kernel
theorem dX5_digest_107 : decode cX5_digest 107 = .ok (.aload_n 0, 1) := by decide +kernel
theorem dX5_digest_108 : decode cX5_digest 108 = .ok (.iload_n 3, 1) := by decide +kernel
theorem dX5_digest_109 : decode cX5_digest 109 = .ok (.iconst 4, 1) := by decide +kernel
theorem dX5_digest_110 : decode cX5_digest 110 = .ok (.invokevirtual 170, 3) := by decide +kernel
theorem dX5_digest_113 : decode cX5_digest 113 = .ok (.i2l, 1) := by decide +kernel
theorem dX5_digest_114 : decode cX5_digest 114 = .ok (.ladd, 1) := by decide +kernel
theorem dX5_digest_115 : decode cX5_digest 115 = .ok (.lstore_n 1, 1) := by decide +kernel
theorem dX5_digest_116 : decode cX5_digest 116 = .ok (.iinc 3 1, 3) := by decide +kernel
theorem dX5_digest_119 : decode cX5_digest 119 = .ok (.goto (-73), 3) := by decide +kernel
theorem dX5_digest_122 : decode cX5_digest 122 = .ok (.iconst 0, 1) := by decide +kernel
theorem dX5_digest_123 : decode cX5_digest 123 = .ok (.istore_n 3, 1) := by decide +kernel
theorem dX5_digest_124 : decode cX5_digest 124 = .ok (.iload_n 3, 1) := by decide +kernel
theorem dX5_digest_125 : decode cX5_digest 125 = .ok (.aload_n 0, 1) := by decide +kernel
theorem dX5_digest_126 : decode cX5_digest 126 = .ok (.getfield 10, 3) := by decide +kernel
theorem dX5_digest_129 : decode cX5_digest 129 = .ok (.invokevirtual 187, 3) := by decide +kernel
theorem dX5_digest_132 : decode cX5_digest 132 = .ok (.if_icmp .ge 42, 3) := by decide +kernel
theorem dX5_digest_135 : decode cX5_digest 135 = .ok (.iconst 0, 1) := by decide +kernel
theorem dX5_digest_136 : decode cX5_digest 136 = .ok (.istore 4, 2) := by decide +kernel
theorem dX5_digest_138 : decode cX5_digest 138 = .ok (.iload 4, 2) := by decide +kernel
theorem dX5_digest_140 : decode cX5_digest 140 = .ok (.iconst 3, 1) := by decide +kernel
theorem dX5_digest_141 : decode cX5_digest 141 = .ok (.if_icmp .ge 27, 3) := by decide +kernel
theorem dX5_digest_144 : decode cX5_digest 144 = .ok (.ldc2_w 259, 3) := by decide +kernel
theorem dX5_digest_147 : decode cX5_digest 147 = .ok (.lload_n 1, 1) := by decide +kernel
theorem dX5_digest_148 : decode cX5_digest 148 = .ok (.lmul, 1) := by decide +kernel
theorem dX5_digest_149 : decode cX5_digest 149 = .ok (.aload_n 0, 1) := by decide +kernel
theorem dX5_digest_150 : decode cX5_digest 150 = .ok (.getfield 10, 3) := by decide +kernel
theorem dX5_digest_153 : decode cX5_digest 153 = .ok (.iload_n 3, 1) := by decide +kernel
theorem dX5_digest_154 : decode cX5_digest 154 = .ok (.iload 4, 2) := by decide +kernel
theorem dX5_digest_156 : decode cX5_digest 156 = .ok (.invokevirtual 193, 3) := by decide +kernel
theorem dX5_digest_159 : decode cX5_digest 159 = .ok (.i2l, 1) := by decide +kernel
theorem dX5_digest_160 : decode cX5_digest 160 = .ok (.ladd, 1) := by decide +kernel
theorem dX5_digest_161 : decode cX5_digest 161 = .ok (.lstore_n 1, 1) := by decide +kernel
theorem dX5_digest_162 : decode cX5_digest 162 = .ok (.iinc 4 1, 3) := by decide +kernel
theorem dX5_digest_165 : decode cX5_digest 165 = .ok (.goto (-27), 3) := by decide +kernel
theorem dX5_digest_168 : decode cX5_digest 168 = .ok (.iinc 3 1, 3) := by decide +kernel
theorem dX5_digest_171 : decode cX5_digest 171 = .ok (.goto (-47), 3) := by decide +kernel
theorem dX5_digest_174 : decode cX5_digest 174 = .ok (.aload_n 0, 1) := by decide +kernel
theorem dX5_digest_175 : decode cX5_digest 175 = .ok (.getfield 16, 3) := by decide +kernel
theorem dX5_digest_178 : decode cX5_digest 178 = .ok (.aload_n 0, 1) := by decide +kernel
theorem dX5_digest_179 : decode cX5_digest 179 = .ok (.getfield 10, 3) := by decide +kernel
theorem dX5_digest_182 : decode cX5_digest 182 = .ok (.invokevirtual 196, 3) := by decide +kernel
theorem dX5_digest_185 : decode cX5_digest 185 = .ok (.ldc2_w 259, 3) := by decide +kernel
theorem dX5_digest_188 : decode cX5_digest 188 = .ok (.lload_n 1, 1) := by decide +kernel
theorem dX5_digest_189 : decode cX5_digest 189 = .ok (.lmul, 1) := by decide +kernel
theorem dX5_digest_190 : decode cX5_digest 190 = .ok (.aload_n 0, 1) := by decide +kernel
theorem dX5_digest_191 : decode cX5_digest 191 = .ok (.aload_n 0, 1) := by decide +kernel
theorem dX5_digest_192 : decode cX5_digest 192 = .ok (.getfield 16, 3) := by decide +kernel
theorem dX5_digest_195 : decode cX5_digest 195 = .ok (.invokevirtual 148, 3) := by decide +kernel
theorem dX5_digest_198 : decode cX5_digest 198 = .ok (.i2l, 1) := by decide +kernel
theorem dX5_digest_199 : decode cX5_digest 199 = .ok (.ladd, 1) := by decide +kernel
theorem dX5_digest_200 : decode cX5_digest 200 = .ok (.lstore_n 1, 1) := by decide +kernel
theorem dX5_digest_201 : decode cX5_digest 201 = .ok (.ldc2_w 259, 3) := by decide +kernel
theorem dX5_digest_204 : decode cX5_digest 204 = .ok (.lload_n 1, 1) := by decide +kernel
theorem dX5_digest_205 : decode cX5_digest 205 = .ok (.lmul, 1) := by decide +kernel
theorem dX5_digest_206 : decode cX5_digest 206 = .ok (.aload_n 0, 1) := by decide +kernel
theorem dX5_digest_207 : decode cX5_digest 207 = .ok (.getfield 27, 3) := by decide +kernel
theorem dX5_digest_210 : decode cX5_digest 210 = .ok (.i2l, 1) := by decide +kernel
theorem dX5_digest_211 : decode cX5_digest 211 = .ok (.ladd, 1) := by decide +kernel
theorem dX5_digest_212 : decode cX5_digest 212 = .ok (.lreturn, 1) := by decide +kernel
theorem dX5_isOutside_0 : decode cX5_isOutside 0 = .ok (.iload_n 0, 1) := by decide +kernel
theorem dX5_isOutside_1 : decode cX5_isOutside 1 = .ok (.iload_n 1, 1) := by decide +kernel
theorem dX5_isOutside_2 : decode cX5_isOutside 2 = .ok (.if_icmp .lt 8, 3) := by decide +kernel
theorem dX5_isOutside_5 : decode cX5_isOutside 5 = .ok (.iload_n 0, 1) := by decide +kernel
theorem dX5_isOutside_6 : decode cX5_isOutside 6 = .ok (.iload_n 2, 1) := by decide +kernel
theorem dX5_isOutside_7 : decode cX5_isOutside 7 = .ok (.if_icmp .le 7, 3) := by decide +kernel
theorem dX5_isOutside_10 : decode cX5_isOutside 10 = .ok (.iconst 1, 1) := by decide +kernel
theorem dX5_isOutside_11 : decode cX5_isOutside 11 = .ok (.goto 4, 3) := by decide +kernel
theorem dX5_isOutside_14 : decode cX5_isOutside 14 = .ok (.iconst 0, 1) := by decide +kernel
theorem dX5_isOutside_15 : decode cX5_isOutside 15 = .ok (.ireturn, 1) := by decide +kernel
theorem dX5_checkCell_0 : decode cX5_checkCell 0 = .ok (.iload_n 1, 1) := by decide +kernel
theorem dX5_checkCell_1 : decode cX5_checkCell 1 = .ok (.iconst 0, 1) := by decide +kernel
theorem dX5_checkCell_2 : decode cX5_checkCell 2 = .ok (.aload_n 0, 1) := by decide +kernel
theorem dX5_checkCell_3 : decode cX5_checkCell 3 = .ok (.getfield 10, 3) := by decide +kernel
theorem dX5_checkCell_6 : decode cX5_checkCell 6 = .ok (.invokevirtual 212, 3) := by decide +kernel
theorem dX5_checkCell_9 : decode cX5_checkCell 9 = .ok (.iconst 1, 1) := by decide +kernel
theorem dX5_checkCell_10 : decode cX5_checkCell 10 = .ok (.isub, 1) := by decide +kernel
theorem dX5_checkCell_11 : decode cX5_checkCell 11 = .ok (.invokestatic 70, 3) := by decide +kernel
theorem dX5_checkCell_14 : decode cX5_checkCell 14 = .ok (.ifCond .eq 14, 3) := by decide +kernel
theorem dX5_checkCell_17 : decode cX5_checkCell 17 = .ok (.new 173, 3) := by decide +kernel
theorem dX5_checkCell_20 : decode cX5_checkCell 20 = .ok (.dup, 1) := by decide +kernel
theorem dX5_checkCell_21 : decode cX5_checkCell 21 = .ok (.ldc_w 261, 3) := by decide +kernel
theorem dX5_checkCell_24 : decode cX5_checkCell 24 = .ok (.invokespecial 177, 3) := by decide +kernel
theorem dX5_checkCell_27 : decode cX5_checkCell 27 = .ok (.athrow, 1) := by decide +kernel
theorem dX5_checkCell_28 : decode cX5_checkCell 28 = .ok (.return_, 1) := by decide +kernel
theorem dX5_checkRectangle_0 : decode cX5_checkRectangle 0 = .ok (.aload_n 0, 1) := by decide +kernel
theorem dX5_checkRectangle_1 : decode cX5_checkRectangle 1 = .ok (.iload_n 1, 1) := by decide +kernel
theorem dX5_checkRectangle_2 : decode cX5_checkRectangle 2 = .ok (.invokevirtual 87, 3) := by decide +kernel
theorem dX5_checkRectangle_5 : decode cX5_checkRectangle 5 = .ok (.iload_n 2, 1) := by decide +kernel
theorem dX5_checkRectangle_6 : decode cX5_checkRectangle 6 = .ok (.iconst 1, 1) := by decide +kernel
theorem dX5_checkRectangle_7 : decode cX5_checkRectangle 7 = .ok (.bipush 7, 2) := by decide +kernel
theorem dX5_checkRectangle_9 : decode cX5_checkRectangle 9 = .ok (.invokestatic 70, 3) := by decide +kernel
theorem dX5_checkRectangle_12 : decode cX5_checkRectangle 12 = .ok (.ifCond .ne 53, 3) := by decide +kernel
theorem dX5_checkRectangle_15 : decode cX5_checkRectangle 15 = .ok (.iload_n 3, 1) := by decide +kernel
theorem dX5_checkRectangle_16 : decode cX5_checkRectangle 16 = .ok (.iconst 1, 1) := by decide +kernel
theorem dX5_checkRectangle_17 : decode cX5_checkRectangle 17 = .ok (.bipush 7, 2) := by decide +kernel
theorem dX5_checkRectangle_19 : decode cX5_checkRectangle 19 = .ok (.invokestatic 70, 3) := by decide +kernel
theorem dX5_checkRectangle_22 : decode cX5_checkRectangle 22 = .ok (.ifCond .ne 43, 3) := by decide +kernel
theorem dX5_checkRectangle_25 : decode cX5_checkRectangle 25 = .ok (.aload_n 0, 1) := by decide +kernel
theorem dX5_checkRectangle_26 : decode cX5_checkRectangle 26 = .ok (.getfield 10, 3) := by decide +kernel
theorem dX5_checkRectangle_29 : decode cX5_checkRectangle 29 = .ok (.iload_n 1, 1) := by decide +kernel
theorem dX5_checkRectangle_30 : decode cX5_checkRectangle 30 = .ok (.invokevirtual 245, 3) := by decide +kernel
theorem dX5_checkRectangle_33 : decode cX5_checkRectangle 33 = .ok (.iload_n 2, 1) := by decide +kernel
theorem dX5_checkRectangle_34 : decode cX5_checkRectangle 34 = .ok (.iadd, 1) := by decide +kernel
theorem dX5_checkRectangle_35 : decode cX5_checkRectangle 35 = .ok (.aload_n 0, 1) := by decide +kernel
theorem dX5_checkRectangle_36 : decode cX5_checkRectangle 36 = .ok (.getfield 10, 3) := by decide +kernel
theorem dX5_checkRectangle_39 : decode cX5_checkRectangle 39 = .ok (.getfield 263, 3) := by decide +kernel
theorem dX5_checkRectangle_42 : decode cX5_checkRectangle 42 = .ok (.if_icmp .gt 23, 3) := by decide +kernel
theorem dX5_checkRectangle_45 : decode cX5_checkRectangle 45 = .ok (.aload_n 0, 1) := by decide +kernel
theorem dX5_checkRectangle_46 : decode cX5_checkRectangle 46 = .ok (.getfield 10, 3) := by decide +kernel
theorem dX5_checkRectangle_49 : decode cX5_checkRectangle 49 = .ok (.iload_n 1, 1) := by decide +kernel
theorem dX5_checkRectangle_50 : decode cX5_checkRectangle 50 = .ok (.invokevirtual 242, 3) := by decide +kernel
theorem dX5_checkRectangle_53 : decode cX5_checkRectangle 53 = .ok (.iload_n 3, 1) := by decide +kernel
theorem dX5_checkRectangle_54 : decode cX5_checkRectangle 54 = .ok (.iadd, 1) := by decide +kernel
theorem dX5_checkRectangle_55 : decode cX5_checkRectangle 55 = .ok (.aload_n 0, 1) := by decide +kernel
theorem dX5_checkRectangle_56 : decode cX5_checkRectangle 56 = .ok (.getfield 10, 3) := by decide +kernel
theorem dX5_checkRectangle_59 : decode cX5_checkRectangle 59 = .ok (.getfield 264, 3) := by decide +kernel
theorem dX5_checkRectangle_62 : decode cX5_checkRectangle 62 = .ok (.if_icmp .le 14, 3) := by decide +kernel
theorem dX5_checkRectangle_65 : decode cX5_checkRectangle 65 = .ok (.new 74, 3) := by decide +kernel
theorem dX5_checkRectangle_68 : decode cX5_checkRectangle 68 = .ok (.dup, 1) := by decide +kernel
theorem dX5_checkRectangle_69 : decode cX5_checkRectangle 69 = .ok (.ldc_w 265, 3) := by decide +kernel
theorem dX5_checkRectangle_72 : decode cX5_checkRectangle 72 = .ok (.invokespecial 78, 3) := by decide +kernel
theorem dX5_checkRectangle_75 : decode cX5_checkRectangle 75 = .ok (.athrow, 1) := by decide +kernel
theorem dX5_checkRectangle_76 : decode cX5_checkRectangle 76 = .ok (.return_, 1) := by decide +kernel
theorem dX5_saveState_0 : decode cX5_saveState 0 = .ok (.aload_n 0, 1) := by decide +kernel
theorem dX5_saveState_1 : decode cX5_saveState 1 = .ok (.aload_n 0, 1) := by decide +kernel
theorem dX5_saveState_2 : decode cX5_saveState 2 = .ok (.getfield 23, 3) := by decide +kernel
theorem dX5_saveState_5 : decode cX5_saveState 5 = .ok (.invokevirtual 253, 3) := by decide +kernel
theorem dX5_saveState_8 : decode cX5_saveState 8 = .ok (.astore_n 1, 1) := by decide +kernel
theorem dX5_saveState_9 : decode cX5_saveState 9 = .ok (.aload_n 1, 1) := by decide +kernel
theorem dX5_saveState_10 : decode cX5_saveState 10 = .ok (.ifnull 11, 3) := by decide +kernel
theorem dX5_saveState_13 : decode cX5_saveState 13 = .ok (.aload_n 1, 1) := by decide +kernel
theorem dX5_saveState_14 : decode cX5_saveState 14 = .ok (.aload_n 0, 1) := by decide +kernel
theorem dX5_saveState_15 : decode cX5_saveState 15 = .ok (.getfield 10, 3) := by decide +kernel
theorem dX5_saveState_18 : decode cX5_saveState 18 = .ok (.invokevirtual 196, 3) := by decide +kernel
theorem dX5_saveState_21 : decode cX5_saveState 21 = .ok (.aload_n 0, 1) := by decide +kernel
theorem dX5_saveState_22 : decode cX5_saveState 22 = .ok (.aload_n 0, 1) := by decide +kernel
theorem dX5_saveState_23 : decode cX5_saveState 23 = .ok (.getfield 23, 3) := by decide +kernel
theorem dX5_saveState_26 : decode cX5_saveState 26 = .ok (.iconst 1, 1) := by decide +kernel
theorem dX5_saveState_27 : decode cX5_saveState 27 = .ok (.iadd, 1) := by decide +kernel
theorem dX5_saveState_28 : decode cX5_saveState 28 = .ok (.iconst 4, 1) := by decide +kernel
theorem dX5_saveState_29 : decode cX5_saveState 29 = .ok (.irem, 1) := by decide +kernel
theorem dX5_saveState_30 : decode cX5_saveState 30 = .ok (.putfield 23, 3) := by decide +kernel
theorem dX5_saveState_33 : decode cX5_saveState 33 = .ok (.aload_n 0, 1) := by decide +kernel
theorem dX5_saveState_34 : decode cX5_saveState 34 = .ok (.getfield 27, 3) := by decide +kernel
theorem dX5_saveState_37 : decode cX5_saveState 37 = .ok (.iconst 4, 1) := by decide +kernel
theorem dX5_saveState_38 : decode cX5_saveState 38 = .ok (.if_icmp .ge 13, 3) := by decide +kernel
theorem dX5_saveState_41 : decode cX5_saveState 41 = .ok (.aload_n 0, 1) := by decide +kernel
theorem dX5_saveState_42 : decode cX5_saveState 42 = .ok (.dup, 1) := by decide +kernel
theorem dX5_saveState_43 : decode cX5_saveState 43 = .ok (.getfield 27, 3) := by decide +kernel
theorem dX5_saveState_46 : decode cX5_saveState 46 = .ok (.iconst 1, 1) := by decide +kernel
theorem dX5_saveState_47 : decode cX5_saveState 47 = .ok (.iadd, 1) := by decide +kernel
theorem dX5_saveState_48 : decode cX5_saveState 48 = .ok (.putfield 27, 3) := by decide +kernel
theorem dX5_saveState_51 : decode cX5_saveState 51 = .ok (.return_, 1) := by decide +kernel
theorem dX5_savedAt_0 : decode cX5_savedAt 0 = .ok (.iload_n 1, 1) := by decide +kernel
theorem dX5_savedAt_1 : decode cX5_savedAt 1 = .ok (.ifCond .lt 21, 3) := by decide +kernel
theorem dX5_savedAt_4 : decode cX5_savedAt 4 = .ok (.iload_n 1, 1) := by decide +kernel
theorem dX5_savedAt_5 : decode cX5_savedAt 5 = .ok (.aload_n 0, 1) := by decide +kernel
theorem dX5_savedAt_6 : decode cX5_savedAt 6 = .ok (.getfield 19, 3) := by decide +kernel
theorem dX5_savedAt_9 : decode cX5_savedAt 9 = .ok (.arraylength, 1) := by decide +kernel
theorem dX5_savedAt_10 : decode cX5_savedAt 10 = .ok (.if_icmp .ge 12, 3) := by decide +kernel
theorem dX5_savedAt_13 : decode cX5_savedAt 13 = .ok (.aload_n 0, 1) := by decide +kernel
theorem dX5_savedAt_14 : decode cX5_savedAt 14 = .ok (.getfield 19, 3) := by decide +kernel
theorem dX5_savedAt_17 : decode cX5_savedAt 17 = .ok (.iload_n 1, 1) := by decide +kernel
theorem dX5_savedAt_18 : decode cX5_savedAt 18 = .ok (.aaload, 1) := by decide +kernel
theorem dX5_savedAt_19 : decode cX5_savedAt 19 = .ok (.goto 4, 3) := by decide +kernel
theorem dX5_savedAt_22 : decode cX5_savedAt 22 = .ok (.aconst_null, 1) := by decide +kernel
theorem dX5_savedAt_23 : decode cX5_savedAt 23 = .ok (.areturn, 1) := by decide +kernel
theorem dX5_fieldFact_0 : decode cX5_fieldFact 0 = .ok (.iload_n 1, 1) := by decide +kernel
theorem dX5_fieldFact_1 : decode cX5_fieldFact 1 = .ok (.tableswitch 174 0 12 #[67, 75, 83, 91, 99, 107, 112, 123, 131, 139, 147, 158, 166], 67) := by decide +kernel
theorem dX5_fieldFact_68 : decode cX5_fieldFact 68 = .ok (.aload_n 0, 1) := by decide +kernel
theorem dX5_fieldFact_69 : decode cX5_fieldFact 69 = .ok (.getfield 10, 3) := by decide +kernel
theorem dX5_fieldFact_72 : decode cX5_fieldFact 72 = .ok (.getfield 263, 3) := by decide +kernel
theorem dX5_fieldFact_75 : decode cX5_fieldFact 75 = .ok (.ireturn, 1) := by decide +kernel
theorem dX5_fieldFact_76 : decode cX5_fieldFact 76 = .ok (.aload_n 0, 1) := by decide +kernel
theorem dX5_fieldFact_77 : decode cX5_fieldFact 77 = .ok (.getfield 10, 3) := by decide +kernel
theorem dX5_fieldFact_80 : decode cX5_fieldFact 80 = .ok (.getfield 264, 3) := by decide +kernel
theorem dX5_fieldFact_83 : decode cX5_fieldFact 83 = .ok (.ireturn, 1) := by decide +kernel
theorem dX5_fieldFact_84 : decode cX5_fieldFact 84 = .ok (.aload_n 0, 1) := by decide +kernel
theorem dX5_fieldFact_85 : decode cX5_fieldFact 85 = .ok (.getfield 10, 3) := by decide +kernel
theorem dX5_fieldFact_88 : decode cX5_fieldFact 88 = .ok (.invokevirtual 206, 3) := by decide +kernel
theorem dX5_fieldFact_91 : decode cX5_fieldFact 91 = .ok (.ireturn, 1) := by decide +kernel
theorem dX5_fieldFact_92 : decode cX5_fieldFact 92 = .ok (.aload_n 0, 1) := by decide +kernel
theorem dX5_fieldFact_93 : decode cX5_fieldFact 93 = .ok (.getfield 40, 3) := by decide +kernel
theorem dX5_fieldFact_96 : decode cX5_fieldFact 96 = .ok (.invokevirtual 267, 3) := by decide +kernel
theorem dX5_fieldFact_99 : decode cX5_fieldFact 99 = .ok (.ireturn, 1) := by decide +kernel
theorem dX5_fieldFact_100 : decode cX5_fieldFact 100 = .ok (.aload_n 0, 1) := by decide +kernel
theorem dX5_fieldFact_101 : decode cX5_fieldFact 101 = .ok (.getfield 40, 3) := by decide +kernel
theorem dX5_fieldFact_104 : decode cX5_fieldFact 104 = .ok (.invokevirtual 199, 3) := by decide +kernel
theorem dX5_fieldFact_107 : decode cX5_fieldFact 107 = .ok (.ireturn, 1) := by decide +kernel
theorem dX5_fieldFact_108 : decode cX5_fieldFact 108 = .ok (.aload_n 0, 1) := by decide +kernel
theorem dX5_fieldFact_109 : decode cX5_fieldFact 109 = .ok (.invokevirtual 270, 3) := by decide +kernel
theorem dX5_fieldFact_112 : decode cX5_fieldFact 112 = .ok (.ireturn, 1) := by decide +kernel
theorem dX5_fieldFact_113 : decode cX5_fieldFact 113 = .ok (.aload_n 0, 1) := by decide +kernel
theorem dX5_fieldFact_114 : decode cX5_fieldFact 114 = .ok (.getfield 10, 3) := by decide +kernel
theorem dX5_fieldFact_117 : decode cX5_fieldFact 117 = .ok (.getfield 273, 3) := by decide +kernel
theorem dX5_fieldFact_120 : decode cX5_fieldFact 120 = .ok (.invokevirtual 276, 3) := by decide +kernel
theorem dX5_fieldFact_123 : decode cX5_fieldFact 123 = .ok (.ireturn, 1) := by decide +kernel
theorem dX5_fieldFact_124 : decode cX5_fieldFact 124 = .ok (.aload_n 0, 1) := by decide +kernel
theorem dX5_fieldFact_125 : decode cX5_fieldFact 125 = .ok (.getfield 10, 3) := by decide +kernel
theorem dX5_fieldFact_128 : decode cX5_fieldFact 128 = .ok (.getfield 60, 3) := by decide +kernel
theorem dX5_fieldFact_131 : decode cX5_fieldFact 131 = .ok (.ireturn, 1) := by decide +kernel
theorem dX5_fieldFact_132 : decode cX5_fieldFact 132 = .ok (.aload_n 0, 1) := by decide +kernel
theorem dX5_fieldFact_133 : decode cX5_fieldFact 133 = .ok (.getfield 10, 3) := by decide +kernel
theorem dX5_fieldFact_136 : decode cX5_fieldFact 136 = .ok (.getfield 279, 3) := by decide +kernel
theorem dX5_fieldFact_139 : decode cX5_fieldFact 139 = .ok (.ireturn, 1) := by decide +kernel
theorem dX5_fieldFact_140 : decode cX5_fieldFact 140 = .ok (.aload_n 0, 1) := by decide +kernel
theorem dX5_fieldFact_141 : decode cX5_fieldFact 141 = .ok (.getfield 10, 3) := by decide +kernel
theorem dX5_fieldFact_144 : decode cX5_fieldFact 144 = .ok (.getfield 84, 3) := by decide +kernel
theorem dX5_fieldFact_147 : decode cX5_fieldFact 147 = .ok (.ireturn, 1) := by decide +kernel
theorem dX5_fieldFact_148 : decode cX5_fieldFact 148 = .ok (.aload_n 0, 1) := by decide +kernel
theorem dX5_fieldFact_149 : decode cX5_fieldFact 149 = .ok (.getfield 10, 3) := by decide +kernel
theorem dX5_fieldFact_152 : decode cX5_fieldFact 152 = .ok (.getfield 92, 3) := by decide +kernel
theorem dX5_fieldFact_155 : decode cX5_fieldFact 155 = .ok (.invokevirtual 276, 3) := by decide +kernel
theorem dX5_fieldFact_158 : decode cX5_fieldFact 158 = .ok (.ireturn, 1) := by decide +kernel
theorem dX5_fieldFact_159 : decode cX5_fieldFact 159 = .ok (.aload_n 0, 1) := by decide +kernel
theorem dX5_fieldFact_160 : decode cX5_fieldFact 160 = .ok (.getfield 10, 3) := by decide +kernel
theorem dX5_fieldFact_163 : decode cX5_fieldFact 163 = .ok (.getfield 221, 3) := by decide +kernel
theorem dX5_fieldFact_166 : decode cX5_fieldFact 166 = .ok (.ireturn, 1) := by decide +kernel
theorem dX5_fieldFact_167 : decode cX5_fieldFact 167 = .ok (.aload_n 0, 1) := by decide +kernel
theorem dX5_fieldFact_168 : decode cX5_fieldFact 168 = .ok (.getfield 10, 3) := by decide +kernel
theorem dX5_fieldFact_171 : decode cX5_fieldFact 171 = .ok (.getfield 156, 3) := by decide +kernel
theorem dX5_fieldFact_174 : decode cX5_fieldFact 174 = .ok (.ireturn, 1) := by decide +kernel
theorem dX5_fieldFact_175 : decode cX5_fieldFact 175 = .ok (.aload_n 0, 1) := by decide +kernel
theorem dX5_fieldFact_176 : decode cX5_fieldFact 176 = .ok (.getfield 10, 3) := by decide +kernel
theorem dX5_fieldFact_179 : decode cX5_fieldFact 179 = .ok (.getfield 282, 3) := by decide +kernel
theorem dX5_fieldFact_182 : decode cX5_fieldFact 182 = .ok (.ireturn, 1) := by decide +kernel
theorem dX5_cellFact_0 : decode cX5_cellFact 0 = .ok (.iload_n 2, 1) := by decide +kernel
theorem dX5_cellFact_1 : decode cX5_cellFact 1 = .ok (.lookupswitch 65 #[(0, 35), (5, 47), (6, 56)], 35) := by decide +kernel
theorem dX5_cellFact_36 : decode cX5_cellFact 36 = .ok (.aload_n 0, 1) := by decide +kernel
theorem dX5_cellFact_37 : decode cX5_cellFact 37 = .ok (.getfield 10, 3) := by decide +kernel
theorem dX5_cellFact_40 : decode cX5_cellFact 40 = .ok (.getfield 92, 3) := by decide +kernel
theorem dX5_cellFact_43 : decode cX5_cellFact 43 = .ok (.iload_n 1, 1) := by decide +kernel
theorem dX5_cellFact_44 : decode cX5_cellFact 44 = .ok (.invokevirtual 95, 3) := by decide +kernel
theorem dX5_cellFact_47 : decode cX5_cellFact 47 = .ok (.ireturn, 1) := by decide +kernel
theorem dX5_cellFact_48 : decode cX5_cellFact 48 = .ok (.aload_n 0, 1) := by decide +kernel
theorem dX5_cellFact_49 : decode cX5_cellFact 49 = .ok (.getfield 40, 3) := by decide +kernel
theorem dX5_cellFact_52 : decode cX5_cellFact 52 = .ok (.iload_n 1, 1) := by decide +kernel
theorem dX5_cellFact_53 : decode cX5_cellFact 53 = .ok (.invokevirtual 131, 3) := by decide +kernel
theorem dX5_cellFact_56 : decode cX5_cellFact 56 = .ok (.ireturn, 1) := by decide +kernel
theorem dX5_cellFact_57 : decode cX5_cellFact 57 = .ok (.aload_n 0, 1) := by decide +kernel
theorem dX5_cellFact_58 : decode cX5_cellFact 58 = .ok (.getfield 10, 3) := by decide +kernel
theorem dX5_cellFact_61 : decode cX5_cellFact 61 = .ok (.iload_n 1, 1) := by decide +kernel
theorem dX5_cellFact_62 : decode cX5_cellFact 62 = .ok (.invokevirtual 285, 3) := by decide +kernel
theorem dX5_cellFact_65 : decode cX5_cellFact 65 = .ok (.ireturn, 1) := by decide +kernel
theorem dX5_cellFact_66 : decode cX5_cellFact 66 = .ok (.aload_n 0, 1) := by decide +kernel
theorem dX5_cellFact_67 : decode cX5_cellFact 67 = .ok (.getfield 10, 3) := by decide +kernel
theorem dX5_cellFact_70 : decode cX5_cellFact 70 = .ok (.iload_n 1, 1) := by decide +kernel
theorem dX5_cellFact_71 : decode cX5_cellFact 71 = .ok (.iload_n 2, 1) := by decide +kernel
theorem dX5_cellFact_72 : decode cX5_cellFact 72 = .ok (.iconst 1, 1) := by decide +kernel
theorem dX5_cellFact_73 : decode cX5_cellFact 73 = .ok (.isub, 1) := by decide +kernel
theorem dX5_cellFact_74 : decode cX5_cellFact 74 = .ok (.invokevirtual 288, 3) := by decide +kernel
theorem dX5_cellFact_77 : decode cX5_cellFact 77 = .ok (.ireturn, 1) := by decide +kernel
theorem dX5_blockFact_0 : decode cX5_blockFact 0 = .ok (.aload_n 0, 1) := by decide +kernel
theorem dX5_blockFact_1 : decode cX5_blockFact 1 = .ok (.getfield 40, 3) := by decide +kernel
theorem dX5_blockFact_4 : decode cX5_blockFact 4 = .ok (.iload_n 1, 1) := by decide +kernel
theorem dX5_blockFact_5 : decode cX5_blockFact 5 = .ok (.invokevirtual 131, 3) := by decide +kernel
theorem dX5_blockFact_8 : decode cX5_blockFact 8 = .ok (.istore_n 3, 1) := by decide +kernel
theorem dX5_blockFact_9 : decode cX5_blockFact 9 = .ok (.iload_n 3, 1) := by decide +kernel
theorem dX5_blockFact_10 : decode cX5_blockFact 10 = .ok (.iconst (-1), 1) := by decide +kernel
theorem dX5_blockFact_11 : decode cX5_blockFact 11 = .ok (.if_icmp .ne 5, 3) := by decide +kernel
theorem dX5_blockFact_14 : decode cX5_blockFact 14 = .ok (.iconst (-1), 1) := by decide +kernel
theorem dX5_blockFact_15 : decode cX5_blockFact 15 = .ok (.ireturn, 1) := by decide +kernel
theorem dX5_blockFact_16 : decode cX5_blockFact 16 = .ok (.iload_n 2, 1) := by decide +kernel
theorem dX5_blockFact_17 : decode cX5_blockFact 17 = .ok (.tableswitch 72 0 3 #[31, 33, 42, 55], 31) := by decide +kernel
theorem dX5_blockFact_48 : decode cX5_blockFact 48 = .ok (.iload_n 3, 1) := by decide +kernel
theorem dX5_blockFact_49 : decode cX5_blockFact 49 = .ok (.ireturn, 1) := by decide +kernel
theorem dX5_blockFact_50 : decode cX5_blockFact 50 = .ok (.aload_n 0, 1) := by decide +kernel
theorem dX5_blockFact_51 : decode cX5_blockFact 51 = .ok (.getfield 40, 3) := by decide +kernel
theorem dX5_blockFact_54 : decode cX5_blockFact 54 = .ok (.iload_n 3, 1) := by decide +kernel
theorem dX5_blockFact_55 : decode cX5_blockFact 55 = .ok (.invokevirtual 291, 3) := by decide +kernel
theorem dX5_blockFact_58 : decode cX5_blockFact 58 = .ok (.ireturn, 1) := by decide +kernel
theorem dX5_blockFact_59 : decode cX5_blockFact 59 = .ok (.aload_n 0, 1) := by decide +kernel
theorem dX5_blockFact_60 : decode cX5_blockFact 60 = .ok (.getfield 10, 3) := by decide +kernel
theorem dX5_blockFact_63 : decode cX5_blockFact 63 = .ok (.aload_n 0, 1) := by decide +kernel
theorem dX5_blockFact_64 : decode cX5_blockFact 64 = .ok (.getfield 40, 3) := by decide +kernel
theorem dX5_blockFact_67 : decode cX5_blockFact 67 = .ok (.iload_n 3, 1) := by decide +kernel
theorem dX5_blockFact_68 : decode cX5_blockFact 68 = .ok (.invokevirtual 294, 3) := by decide +kernel
theorem dX5_blockFact_71 : decode cX5_blockFact 71 = .ok (.ireturn, 1) := by decide +kernel
theorem dX5_blockFact_72 : decode cX5_blockFact 72 = .ok (.aload_n 0, 1) := by decide +kernel
theorem dX5_blockFact_73 : decode cX5_blockFact 73 = .ok (.getfield 40, 3) := by decide +kernel
theorem dX5_blockFact_76 : decode cX5_blockFact 76 = .ok (.iload_n 3, 1) := by decide +kernel
theorem dX5_blockFact_77 : decode cX5_blockFact 77 = .ok (.invokevirtual 134, 3) := by decide +kernel
theorem dX5_blockFact_80 : decode cX5_blockFact 80 = .ok (.ifCond .eq 7, 3) := by decide +kernel
theorem dX5_blockFact_83 : decode cX5_blockFact 83 = .ok (.iconst 0, 1) := by decide +kernel
theorem dX5_blockFact_84 : decode cX5_blockFact 84 = .ok (.goto 4, 3) := by decide +kernel
theorem dX5_blockFact_87 : decode cX5_blockFact 87 = .ok (.iconst 1, 1) := by decide +kernel
theorem dX5_blockFact_88 : decode cX5_blockFact 88 = .ok (.ireturn, 1) := by decide +kernel
theorem dX5_blockFact_89 : decode cX5_blockFact 89 = .ok (.aload_n 0, 1) := by decide +kernel
theorem dX5_blockFact_90 : decode cX5_blockFact 90 = .ok (.getfield 56, 3) := by decide +kernel
theorem dX5_blockFact_93 : decode cX5_blockFact 93 = .ok (.iload_n 3, 1) := by decide +kernel
theorem dX5_blockFact_94 : decode cX5_blockFact 94 = .ok (.invokevirtual 95, 3) := by decide +kernel
theorem dX5_blockFact_97 : decode cX5_blockFact 97 = .ok (.ireturn, 1) := by decide +kernel
theorem dX5_countStranded_0 : decode cX5_countStranded 0 = .ok (.iconst 0, 1) := by decide +kernel
theorem dX5_countStranded_1 : decode cX5_countStranded 1 = .ok (.istore_n 1, 1) := by decide +kernel
theorem dX5_countStranded_2 : decode cX5_countStranded 2 = .ok (.iconst 0, 1) := by decide +kernel
theorem dX5_countStranded_3 : decode cX5_countStranded 3 = .ok (.istore_n 2, 1) := by decide +kernel
theorem dX5_countStranded_4 : decode cX5_countStranded 4 = .ok (.iload_n 2, 1) := by decide +kernel
theorem dX5_countStranded_5 : decode cX5_countStranded 5 = .ok (.aload_n 0, 1) := by decide +kernel
theorem dX5_countStranded_6 : decode cX5_countStranded 6 = .ok (.getfield 10, 3) := by decide +kernel
theorem dX5_countStranded_9 : decode cX5_countStranded 9 = .ok (.invokevirtual 212, 3) := by decide +kernel
theorem dX5_countStranded_12 : decode cX5_countStranded 12 = .ok (.if_icmp .ge 20, 3) := by decide +kernel
theorem dX5_countStranded_15 : decode cX5_countStranded 15 = .ok (.aload_n 0, 1) := by decide +kernel
theorem dX5_countStranded_16 : decode cX5_countStranded 16 = .ok (.iload_n 2, 1) := by decide +kernel
theorem dX5_countStranded_17 : decode cX5_countStranded 17 = .ok (.invokevirtual 297, 3) := by decide +kernel
theorem dX5_countStranded_20 : decode cX5_countStranded 20 = .ok (.ifCond .eq 6, 3) := by decide +kernel
theorem dX5_countStranded_23 : decode cX5_countStranded 23 = .ok (.iinc 1 1, 3) := by decide +kernel
theorem dX5_countStranded_26 : decode cX5_countStranded 26 = .ok (.iinc 2 1, 3) := by decide +kernel
theorem dX5_countStranded_29 : decode cX5_countStranded 29 = .ok (.goto (-25), 3) := by decide +kernel
theorem dX5_countStranded_32 : decode cX5_countStranded 32 = .ok (.iload_n 1, 1) := by decide +kernel
theorem dX5_countStranded_33 : decode cX5_countStranded 33 = .ok (.ireturn, 1) := by decide +kernel
theorem dX5_findWayOf_0 : decode cX5_findWayOf 0 = .ok (.aload_n 0, 1) := by decide +kernel
theorem dX5_findWayOf_1 : decode cX5_findWayOf 1 = .ok (.getfield 56, 3) := by decide +kernel
theorem dX5_findWayOf_4 : decode cX5_findWayOf 4 = .ok (.iload_n 1, 1) := by decide +kernel
theorem dX5_findWayOf_5 : decode cX5_findWayOf 5 = .ok (.aload_n 0, 1) := by decide +kernel
theorem dX5_findWayOf_6 : decode cX5_findWayOf 6 = .ok (.getfield 40, 3) := by decide +kernel
theorem dX5_findWayOf_9 : decode cX5_findWayOf 9 = .ok (.iload_n 1, 1) := by decide +kernel
theorem dX5_findWayOf_10 : decode cX5_findWayOf 10 = .ok (.invokevirtual 134, 3) := by decide +kernel
theorem dX5_findWayOf_13 : decode cX5_findWayOf 13 = .ok (.ifCond .eq 22, 3) := by decide +kernel
theorem dX5_findWayOf_16 : decode cX5_findWayOf 16 = .ok (.aload_n 0, 1) := by decide +kernel
theorem dX5_findWayOf_17 : decode cX5_findWayOf 17 = .ok (.getfield 47, 3) := by decide +kernel
theorem dX5_findWayOf_20 : decode cX5_findWayOf 20 = .ok (.aload_n 0, 1) := by decide +kernel
theorem dX5_findWayOf_21 : decode cX5_findWayOf 21 = .ok (.getfield 10, 3) := by decide +kernel
theorem dX5_findWayOf_24 : decode cX5_findWayOf 24 = .ok (.aload_n 0, 1) := by decide +kernel
theorem dX5_findWayOf_25 : decode cX5_findWayOf 25 = .ok (.getfield 40, 3) := by decide +kernel
theorem dX5_findWayOf_28 : decode cX5_findWayOf 28 = .ok (.iload_n 1, 1) := by decide +kernel
theorem dX5_findWayOf_29 : decode cX5_findWayOf 29 = .ok (.invokevirtual 138, 3) := by decide +kernel
theorem dX5_findWayOf_32 : decode cX5_findWayOf 32 = .ok (.goto 4, 3) := by decide +kernel
theorem dX5_findWayOf_35 : decode cX5_findWayOf 35 = .ok (.iconst (-1), 1) := by decide +kernel
theorem dX5_findWayOf_36 : decode cX5_findWayOf 36 = .ok (.invokevirtual 300, 3) := by decide +kernel
theorem dX5_findWayOf_39 : decode cX5_findWayOf 39 = .ok (.return_, 1) := by decide +kernel
theorem dX5_findBlocksAndWays_0 : decode cX5_findBlocksAndWays 0 = .ok (.aload_n 0, 1) := by decide +kernel
theorem dX5_findBlocksAndWays_1 : decode cX5_findBlocksAndWays 1 = .ok (.getfield 40, 3) := by decide +kernel
theorem dX5_findBlocksAndWays_4 : decode cX5_findBlocksAndWays 4 = .ok (.aload_n 0, 1) := by decide +kernel
theorem dX5_findBlocksAndWays_5 : decode cX5_findBlocksAndWays 5 = .ok (.getfield 10, 3) := by decide +kernel
theorem dX5_findBlocksAndWays_8 : decode cX5_findBlocksAndWays 8 = .ok (.invokevirtual 127, 3) := by decide +kernel
theorem dX5_findBlocksAndWays_11 : decode cX5_findBlocksAndWays 11 = .ok (.iconst 0, 1) := by decide +kernel
theorem dX5_findBlocksAndWays_12 : decode cX5_findBlocksAndWays 12 = .ok (.istore_n 1, 1) := by decide +kernel
theorem dX5_findBlocksAndWays_13 : decode cX5_findBlocksAndWays 13 = .ok (.iload_n 1, 1) := by decide +kernel
theorem dX5_findBlocksAndWays_14 : decode cX5_findBlocksAndWays 14 = .ok (.aload_n 0, 1) := by decide +kernel
theorem dX5_findBlocksAndWays_15 : decode cX5_findBlocksAndWays 15 = .ok (.getfield 10, 3) := by decide +kernel
theorem dX5_findBlocksAndWays_18 : decode cX5_findBlocksAndWays 18 = .ok (.invokevirtual 212, 3) := by decide +kernel
theorem dX5_findBlocksAndWays_21 : decode cX5_findBlocksAndWays 21 = .ok (.if_icmp .ge 14, 3) := by decide +kernel
theorem dX5_findBlocksAndWays_24 : decode cX5_findBlocksAndWays 24 = .ok (.aload_n 0, 1) := by decide +kernel
theorem dX5_findBlocksAndWays_25 : decode cX5_findBlocksAndWays 25 = .ok (.iload_n 1, 1) := by decide +kernel
theorem dX5_findBlocksAndWays_26 : decode cX5_findBlocksAndWays 26 = .ok (.invokevirtual 167, 3) := by decide +kernel
theorem dX5_findBlocksAndWays_29 : decode cX5_findBlocksAndWays 29 = .ok (.iinc 1 1, 3) := by decide +kernel
theorem dX5_findBlocksAndWays_32 : decode cX5_findBlocksAndWays 32 = .ok (.goto (-19), 3) := by decide +kernel
theorem dX5_findBlocksAndWays_35 : decode cX5_findBlocksAndWays 35 = .ok (.return_, 1) := by decide +kernel
theorem dX5_isStranded_0 : decode cX5_isStranded 0 = .ok (.aload_n 0, 1) := by decide +kernel
theorem dX5_isStranded_1 : decode cX5_isStranded 1 = .ok (.getfield 40, 3) := by decide +kernel
theorem dX5_isStranded_4 : decode cX5_isStranded 4 = .ok (.iload_n 1, 1) := by decide +kernel
theorem dX5_isStranded_5 : decode cX5_isStranded 5 = .ok (.invokevirtual 134, 3) := by decide +kernel
theorem dX5_isStranded_8 : decode cX5_isStranded 8 = .ok (.ifCond .eq 19, 3) := by decide +kernel
theorem dX5_isStranded_11 : decode cX5_isStranded 11 = .ok (.aload_n 0, 1) := by decide +kernel
theorem dX5_isStranded_12 : decode cX5_isStranded 12 = .ok (.getfield 56, 3) := by decide +kernel
theorem dX5_isStranded_15 : decode cX5_isStranded 15 = .ok (.iload_n 1, 1) := by decide +kernel
theorem dX5_isStranded_16 : decode cX5_isStranded 16 = .ok (.invokevirtual 95, 3) := by decide +kernel
theorem dX5_isStranded_19 : decode cX5_isStranded 19 = .ok (.iconst (-1), 1) := by decide +kernel
theorem dX5_isStranded_20 : decode cX5_isStranded 20 = .ok (.if_icmp .ne 7, 3) := by decide +kernel
theorem dX5_isStranded_23 : decode cX5_isStranded 23 = .ok (.iconst 1, 1) := by decide +kernel
theorem dX5_isStranded_24 : decode cX5_isStranded 24 = .ok (.goto 4, 3) := by decide +kernel
theorem dX5_isStranded_27 : decode cX5_isStranded 27 = .ok (.iconst 0, 1) := by decide +kernel
theorem dX5_isStranded_28 : decode cX5_isStranded 28 = .ok (.ireturn, 1) := by decide +kernel
theorem dX5_lowestStranded_0 : decode cX5_lowestStranded 0 = .ok (.iconst 0, 1) := by decide +kernel
theorem dX5_lowestStranded_1 : decode cX5_lowestStranded 1 = .ok (.istore_n 1, 1) := by decide +kernel
theorem dX5_lowestStranded_2 : decode cX5_lowestStranded 2 = .ok (.iload_n 1, 1) := by decide +kernel
theorem dX5_lowestStranded_3 : decode cX5_lowestStranded 3 = .ok (.aload_n 0, 1) := by decide +kernel
theorem dX5_lowestStranded_4 : decode cX5_lowestStranded 4 = .ok (.getfield 10, 3) := by decide +kernel
theorem dX5_lowestStranded_7 : decode cX5_lowestStranded 7 = .ok (.invokevirtual 212, 3) := by decide +kernel
theorem dX5_lowestStranded_10 : decode cX5_lowestStranded 10 = .ok (.if_icmp .ge 19, 3) := by decide +kernel
theorem dX5_lowestStranded_13 : decode cX5_lowestStranded 13 = .ok (.aload_n 0, 1) := by decide +kernel
theorem dX5_lowestStranded_14 : decode cX5_lowestStranded 14 = .ok (.iload_n 1, 1) := by decide +kernel
theorem dX5_lowestStranded_15 : decode cX5_lowestStranded 15 = .ok (.invokevirtual 297, 3) := by decide +kernel
theorem dX5_lowestStranded_18 : decode cX5_lowestStranded 18 = .ok (.ifCond .eq 5, 3) := by decide +kernel
theorem dX5_lowestStranded_21 : decode cX5_lowestStranded 21 = .ok (.iload_n 1, 1) := by decide +kernel
theorem dX5_lowestStranded_22 : decode cX5_lowestStranded 22 = .ok (.ireturn, 1) := by decide +kernel
theorem dX5_lowestStranded_23 : decode cX5_lowestStranded 23 = .ok (.iinc 1 1, 3) := by decide +kernel
theorem dX5_lowestStranded_26 : decode cX5_lowestStranded 26 = .ok (.goto (-24), 3) := by decide +kernel
theorem dX5_lowestStranded_29 : decode cX5_lowestStranded 29 = .ok (.iconst (-1), 1) := by decide +kernel
theorem dX5_lowestStranded_30 : decode cX5_lowestStranded 30 = .ok (.ireturn, 1) := by decide +kernel
theorem dX5_lowestFloating_0 : decode cX5_lowestFloating 0 = .ok (.iconst 0, 1) := by decide +kernel
theorem dX5_lowestFloating_1 : decode cX5_lowestFloating 1 = .ok (.istore_n 2, 1) := by decide +kernel
theorem dX5_lowestFloating_2 : decode cX5_lowestFloating 2 = .ok (.iload_n 2, 1) := by decide +kernel
theorem dX5_lowestFloating_3 : decode cX5_lowestFloating 3 = .ok (.aload_n 1, 1) := by decide +kernel
theorem dX5_lowestFloating_4 : decode cX5_lowestFloating 4 = .ok (.invokevirtual 212, 3) := by decide +kernel
theorem dX5_lowestFloating_7 : decode cX5_lowestFloating 7 = .ok (.if_icmp .ge 39, 3) := by decide +kernel
theorem dX5_lowestFloating_10 : decode cX5_lowestFloating 10 = .ok (.aload_n 0, 1) := by decide +kernel
theorem dX5_lowestFloating_11 : decode cX5_lowestFloating 11 = .ok (.getfield 40, 3) := by decide +kernel
theorem dX5_lowestFloating_14 : decode cX5_lowestFloating 14 = .ok (.iload_n 2, 1) := by decide +kernel
theorem dX5_lowestFloating_15 : decode cX5_lowestFloating 15 = .ok (.invokevirtual 134, 3) := by decide +kernel
theorem dX5_lowestFloating_18 : decode cX5_lowestFloating 18 = .ok (.ifCond .eq 22, 3) := by decide +kernel
theorem dX5_lowestFloating_21 : decode cX5_lowestFloating 21 = .ok (.aload_n 0, 1) := by decide +kernel
theorem dX5_lowestFloating_22 : decode cX5_lowestFloating 22 = .ok (.getfield 47, 3) := by decide +kernel
theorem dX5_lowestFloating_25 : decode cX5_lowestFloating 25 = .ok (.aload_n 1, 1) := by decide +kernel
theorem dX5_lowestFloating_26 : decode cX5_lowestFloating 26 = .ok (.aload_n 0, 1) := by decide +kernel
theorem dX5_lowestFloating_27 : decode cX5_lowestFloating 27 = .ok (.getfield 40, 3) := by decide +kernel
theorem dX5_lowestFloating_30 : decode cX5_lowestFloating 30 = .ok (.iload_n 2, 1) := by decide +kernel
theorem dX5_lowestFloating_31 : decode cX5_lowestFloating 31 = .ok (.invokevirtual 138, 3) := by decide +kernel
theorem dX5_lowestFloating_34 : decode cX5_lowestFloating 34 = .ok (.iconst (-1), 1) := by decide +kernel
theorem dX5_lowestFloating_35 : decode cX5_lowestFloating 35 = .ok (.if_icmp .eq 5, 3) := by decide +kernel
theorem dX5_lowestFloating_38 : decode cX5_lowestFloating 38 = .ok (.iload_n 2, 1) := by decide +kernel
theorem dX5_lowestFloating_39 : decode cX5_lowestFloating 39 = .ok (.ireturn, 1) := by decide +kernel
theorem dX5_lowestFloating_40 : decode cX5_lowestFloating 40 = .ok (.iinc 2 1, 3) := by decide +kernel
theorem dX5_lowestFloating_43 : decode cX5_lowestFloating 43 = .ok (.goto (-41), 3) := by decide +kernel
theorem dX5_lowestFloating_46 : decode cX5_lowestFloating 46 = .ok (.iconst (-1), 1) := by decide +kernel
theorem dX5_lowestFloating_47 : decode cX5_lowestFloating 47 = .ok (.ireturn, 1) := by decide +kernel
theorem dX5_removeFloating_0 : decode cX5_removeFloating 0 = .ok (.aload_n 0, 1) := by decide +kernel
theorem dX5_removeFloating_1 : decode cX5_removeFloating 1 = .ok (.getfield 40, 3) := by decide +kernel
theorem dX5_removeFloating_4 : decode cX5_removeFloating 4 = .ok (.aload_n 1, 1) := by decide +kernel
theorem dX5_removeFloating_5 : decode cX5_removeFloating 5 = .ok (.invokevirtual 127, 3) := by decide +kernel
theorem dX5_removeFloating_8 : decode cX5_removeFloating 8 = .ok (.iconst 0, 1) := by decide +kernel
theorem dX5_removeFloating_9 : decode cX5_removeFloating 9 = .ok (.istore_n 2, 1) := by decide +kernel
theorem dX5_removeFloating_10 : decode cX5_removeFloating 10 = .ok (.iload_n 2, 1) := by decide +kernel
theorem dX5_removeFloating_11 : decode cX5_removeFloating 11 = .ok (.bipush 49, 2) := by decide +kernel
theorem dX5_removeFloating_13 : decode cX5_removeFloating 13 = .ok (.if_icmp .ge 40, 3) := by decide +kernel
theorem dX5_removeFloating_16 : decode cX5_removeFloating 16 = .ok (.aload_n 0, 1) := by decide +kernel
theorem dX5_removeFloating_17 : decode cX5_removeFloating 17 = .ok (.aload_n 1, 1) := by decide +kernel
theorem dX5_removeFloating_18 : decode cX5_removeFloating 18 = .ok (.invokevirtual 303, 3) := by decide +kernel
theorem dX5_removeFloating_21 : decode cX5_removeFloating 21 = .ok (.istore_n 3, 1) := by decide +kernel
theorem dX5_removeFloating_22 : decode cX5_removeFloating 22 = .ok (.iload_n 3, 1) := by decide +kernel
theorem dX5_removeFloating_23 : decode cX5_removeFloating 23 = .ok (.iconst (-1), 1) := by decide +kernel
theorem dX5_removeFloating_24 : decode cX5_removeFloating 24 = .ok (.if_icmp .ne 5, 3) := by decide +kernel
theorem dX5_removeFloating_27 : decode cX5_removeFloating 27 = .ok (.iload_n 2, 1) := by decide +kernel
theorem dX5_removeFloating_28 : decode cX5_removeFloating 28 = .ok (.ireturn, 1) := by decide +kernel
theorem dX5_removeFloating_29 : decode cX5_removeFloating 29 = .ok (.aload_n 1, 1) := by decide +kernel
theorem dX5_removeFloating_30 : decode cX5_removeFloating 30 = .ok (.aload_n 0, 1) := by decide +kernel
theorem dX5_removeFloating_31 : decode cX5_removeFloating 31 = .ok (.getfield 40, 3) := by decide +kernel
theorem dX5_removeFloating_34 : decode cX5_removeFloating 34 = .ok (.iload_n 3, 1) := by decide +kernel
theorem dX5_removeFloating_35 : decode cX5_removeFloating 35 = .ok (.invokevirtual 144, 3) := by decide +kernel
theorem dX5_removeFloating_38 : decode cX5_removeFloating 38 = .ok (.pop, 1) := by decide +kernel
theorem dX5_removeFloating_39 : decode cX5_removeFloating 39 = .ok (.aload_n 0, 1) := by decide +kernel
theorem dX5_removeFloating_40 : decode cX5_removeFloating 40 = .ok (.getfield 40, 3) := by decide +kernel
theorem dX5_removeFloating_43 : decode cX5_removeFloating 43 = .ok (.iload_n 3, 1) := by decide +kernel
theorem dX5_removeFloating_44 : decode cX5_removeFloating 44 = .ok (.invokevirtual 306, 3) := by decide +kernel
theorem dX5_removeFloating_47 : decode cX5_removeFloating 47 = .ok (.iinc 2 1, 3) := by decide +kernel
theorem dX5_removeFloating_50 : decode cX5_removeFloating 50 = .ok (.goto (-40), 3) := by decide +kernel
theorem dX5_removeFloating_53 : decode cX5_removeFloating 53 = .ok (.bipush 49, 2) := by decide +kernel
theorem dX5_removeFloating_55 : decode cX5_removeFloating 55 = .ok (.ireturn, 1) := by decide +kernel
theorem dX5_hasWaterIn_0 : decode cX5_hasWaterIn 0 = .ok (.iconst 0, 1) := by decide +kernel
theorem dX5_hasWaterIn_1 : decode cX5_hasWaterIn 1 = .ok (.istore_n 3, 1) := by decide +kernel
theorem dX5_hasWaterIn_2 : decode cX5_hasWaterIn 2 = .ok (.iload_n 3, 1) := by decide +kernel
theorem dX5_hasWaterIn_3 : decode cX5_hasWaterIn 3 = .ok (.aload_n 1, 1) := by decide +kernel
theorem dX5_hasWaterIn_4 : decode cX5_hasWaterIn 4 = .ok (.invokevirtual 212, 3) := by decide +kernel
theorem dX5_hasWaterIn_7 : decode cX5_hasWaterIn 7 = .ok (.if_icmp .ge 31, 3) := by decide +kernel
theorem dX5_hasWaterIn_10 : decode cX5_hasWaterIn 10 = .ok (.aload_n 0, 1) := by decide +kernel
theorem dX5_hasWaterIn_11 : decode cX5_hasWaterIn 11 = .ok (.getfield 40, 3) := by decide +kernel
theorem dX5_hasWaterIn_14 : decode cX5_hasWaterIn 14 = .ok (.iload_n 3, 1) := by decide +kernel
theorem dX5_hasWaterIn_15 : decode cX5_hasWaterIn 15 = .ok (.invokevirtual 131, 3) := by decide +kernel
theorem dX5_hasWaterIn_18 : decode cX5_hasWaterIn 18 = .ok (.iload_n 2, 1) := by decide +kernel
theorem dX5_hasWaterIn_19 : decode cX5_hasWaterIn 19 = .ok (.if_icmp .ne 13, 3) := by decide +kernel
theorem dX5_hasWaterIn_22 : decode cX5_hasWaterIn 22 = .ok (.aload_n 1, 1) := by decide +kernel
theorem dX5_hasWaterIn_23 : decode cX5_hasWaterIn 23 = .ok (.iload_n 3, 1) := by decide +kernel
theorem dX5_hasWaterIn_24 : decode cX5_hasWaterIn 24 = .ok (.invokevirtual 215, 3) := by decide +kernel
theorem dX5_hasWaterIn_27 : decode cX5_hasWaterIn 27 = .ok (.ifCond .ne 5, 3) := by decide +kernel
theorem dX5_hasWaterIn_30 : decode cX5_hasWaterIn 30 = .ok (.iconst 1, 1) := by decide +kernel
theorem dX5_hasWaterIn_31 : decode cX5_hasWaterIn 31 = .ok (.ireturn, 1) := by decide +kernel
theorem dX5_hasWaterIn_32 : decode cX5_hasWaterIn 32 = .ok (.iinc 3 1, 3) := by decide +kernel
theorem dX5_hasWaterIn_35 : decode cX5_hasWaterIn 35 = .ok (.goto (-33), 3) := by decide +kernel
theorem dX5_hasWaterIn_38 : decode cX5_hasWaterIn 38 = .ok (.iconst 0, 1) := by decide +kernel
theorem dX5_hasWaterIn_39 : decode cX5_hasWaterIn 39 = .ok (.ireturn, 1) := by decide +kernel
theorem dX5_freesWay_0 : decode cX5_freesWay 0 = .ok (.aload_n 0, 1) := by decide +kernel
theorem dX5_freesWay_1 : decode cX5_freesWay 1 = .ok (.getfield 16, 3) := by decide +kernel
theorem dX5_freesWay_4 : decode cX5_freesWay 4 = .ok (.getfield 92, 3) := by decide +kernel
theorem dX5_freesWay_7 : decode cX5_freesWay 7 = .ok (.iload_n 1, 1) := by decide +kernel
theorem dX5_freesWay_8 : decode cX5_freesWay 8 = .ok (.invokevirtual 95, 3) := by decide +kernel
theorem dX5_freesWay_11 : decode cX5_freesWay 11 = .ok (.istore_n 3, 1) := by decide +kernel
theorem dX5_freesWay_12 : decode cX5_freesWay 12 = .ok (.aload_n 0, 1) := by decide +kernel
theorem dX5_freesWay_13 : decode cX5_freesWay 13 = .ok (.getfield 16, 3) := by decide +kernel
theorem dX5_freesWay_16 : decode cX5_freesWay 16 = .ok (.getfield 92, 3) := by decide +kernel
theorem dX5_freesWay_19 : decode cX5_freesWay 19 = .ok (.iload_n 1, 1) := by decide +kernel
theorem dX5_freesWay_20 : decode cX5_freesWay 20 = .ok (.iconst 0, 1) := by decide +kernel
theorem dX5_freesWay_21 : decode cX5_freesWay 21 = .ok (.invokevirtual 300, 3) := by decide +kernel
theorem dX5_freesWay_24 : decode cX5_freesWay 24 = .ok (.aload_n 0, 1) := by decide +kernel
theorem dX5_freesWay_25 : decode cX5_freesWay 25 = .ok (.getfield 47, 3) := by decide +kernel
theorem dX5_freesWay_28 : decode cX5_freesWay 28 = .ok (.aload_n 0, 1) := by decide +kernel
theorem dX5_freesWay_29 : decode cX5_freesWay 29 = .ok (.getfield 16, 3) := by decide +kernel
theorem dX5_freesWay_32 : decode cX5_freesWay 32 = .ok (.aload_n 0, 1) := by decide +kernel
theorem dX5_freesWay_33 : decode cX5_freesWay 33 = .ok (.getfield 40, 3) := by decide +kernel
theorem dX5_freesWay_36 : decode cX5_freesWay 36 = .ok (.iload_n 2, 1) := by decide +kernel
theorem dX5_freesWay_37 : decode cX5_freesWay 37 = .ok (.invokevirtual 138, 3) := by decide +kernel
theorem dX5_freesWay_40 : decode cX5_freesWay 40 = .ok (.iconst (-1), 1) := by decide +kernel
theorem dX5_freesWay_41 : decode cX5_freesWay 41 = .ok (.if_icmp .eq 7, 3) := by decide +kernel
theorem dX5_freesWay_44 : decode cX5_freesWay 44 = .ok (.iconst 1, 1) := by decide +kernel
theorem dX5_freesWay_45 : decode cX5_freesWay 45 = .ok (.goto 4, 3) := by decide +kernel
theorem dX5_freesWay_48 : decode cX5_freesWay 48 = .ok (.iconst 0, 1) := by decide +kernel
theorem dX5_freesWay_49 : decode cX5_freesWay 49 = .ok (.istore 4, 2) := by decide +kernel
theorem dX5_freesWay_51 : decode cX5_freesWay 51 = .ok (.aload_n 0, 1) := by decide +kernel
theorem dX5_freesWay_52 : decode cX5_freesWay 52 = .ok (.getfield 16, 3) := by decide +kernel
theorem dX5_freesWay_55 : decode cX5_freesWay 55 = .ok (.getfield 92, 3) := by decide +kernel
theorem dX5_freesWay_58 : decode cX5_freesWay 58 = .ok (.iload_n 1, 1) := by decide +kernel
theorem dX5_freesWay_59 : decode cX5_freesWay 59 = .ok (.iload_n 3, 1) := by decide +kernel
theorem dX5_freesWay_60 : decode cX5_freesWay 60 = .ok (.invokevirtual 300, 3) := by decide +kernel
theorem dX5_freesWay_63 : decode cX5_freesWay 63 = .ok (.iload 4, 2) := by decide +kernel
theorem dX5_freesWay_65 : decode cX5_freesWay 65 = .ok (.ireturn, 1) := by decide +kernel
theorem dX6_init_0 : decode cX6_init 0 = .ok (.aload_n 0, 1) := by decide +kernel
theorem dX6_init_1 : decode cX6_init 1 = .ok (.invokespecial 1, 3) := by decide +kernel
theorem dX6_init_4 : decode cX6_init 4 = .ok (.aload_n 0, 1) := by decide +kernel
theorem dX6_init_5 : decode cX6_init 5 = .ok (.sipush 226, 3) := by decide +kernel
theorem dX6_init_8 : decode cX6_init 8 = .ok (.newarray .int, 2) := by decide +kernel
theorem dX6_init_10 : decode cX6_init 10 = .ok (.putfield 7, 3) := by decide +kernel
theorem dX6_init_13 : decode cX6_init 13 = .ok (.aload_n 0, 1) := by decide +kernel
theorem dX6_init_14 : decode cX6_init 14 = .ok (.sipush 904, 3) := by decide +kernel
theorem dX6_init_17 : decode cX6_init 17 = .ok (.newarray .int, 2) := by decide +kernel
theorem dX6_init_19 : decode cX6_init 19 = .ok (.putfield 13, 3) := by decide +kernel
theorem dX6_init_22 : decode cX6_init 22 = .ok (.aload_n 0, 1) := by decide +kernel
theorem dX6_init_23 : decode cX6_init 23 = .ok (.sipush 226, 3) := by decide +kernel
theorem dX6_init_26 : decode cX6_init 26 = .ok (.newarray .int, 2) := by decide +kernel
theorem dX6_init_28 : decode cX6_init 28 = .ok (.putfield 16, 3) := by decide +kernel
theorem dX6_init_31 : decode cX6_init 31 = .ok (.aload_n 0, 1) := by decide +kernel
theorem dX6_init_32 : decode cX6_init 32 = .ok (.bipush 49, 2) := by decide +kernel
theorem dX6_init_34 : decode cX6_init 34 = .ok (.newarray .int, 2) := by decide +kernel
theorem dX6_init_36 : decode cX6_init 36 = .ok (.putfield 19, 3) := by decide +kernel
theorem dX6_init_39 : decode cX6_init 39 = .ok (.aload_n 0, 1) := by decide +kernel
theorem dX6_init_40 : decode cX6_init 40 = .ok (.sipush 225, 3) := by decide +kernel
theorem dX6_init_43 : decode cX6_init 43 = .ok (.newarray .int, 2) := by decide +kernel
theorem dX6_init_45 : decode cX6_init 45 = .ok (.putfield 22, 3) := by decide +kernel
theorem dX6_init_48 : decode cX6_init 48 = .ok (.aload_n 0, 1) := by decide +kernel
theorem dX6_init_49 : decode cX6_init 49 = .ok (.bipush 49, 2) := by decide +kernel
theorem dX6_init_51 : decode cX6_init 51 = .ok (.newarray .int, 2) := by decide +kernel
theorem dX6_init_53 : decode cX6_init 53 = .ok (.putfield 25, 3) := by decide +kernel
theorem dX6_init_56 : decode cX6_init 56 = .ok (.aload_n 0, 1) := by decide +kernel
theorem dX6_init_57 : decode cX6_init 57 = .ok (.bipush 60, 2) := by decide +kernel
theorem dX6_init_59 : decode cX6_init 59 = .ok (.newarray .int, 2) := by decide +kernel
theorem dX6_init_61 : decode cX6_init 61 = .ok (.putfield 28, 3) := by decide +kernel
theorem dX6_init_64 : decode cX6_init 64 = .ok (.aload_n 0, 1) := by decide +kernel
theorem dX6_init_65 : decode cX6_init 65 = .ok (.getfield 7, 3) := by decide +kernel
theorem dX6_init_68 : decode cX6_init 68 = .ok (.iconst 2, 1) := by decide +kernel
theorem dX6_init_69 : decode cX6_init 69 = .ok (.iconst 1, 1) := by decide +kernel
theorem dX6_init_70 : decode cX6_init 70 = .ok (.iastore, 1) := by decide +kernel
theorem dX6_init_71 : decode cX6_init 71 = .ok (.aload_n 0, 1) := by decide +kernel
theorem dX6_init_72 : decode cX6_init 72 = .ok (.iconst 4, 1) := by decide +kernel
theorem dX6_init_73 : decode cX6_init 73 = .ok (.iconst 4, 1) := by decide +kernel
theorem dX6_init_74 : decode cX6_init 74 = .ok (.invokevirtual 31, 3) := by decide +kernel
theorem dX6_init_77 : decode cX6_init 77 = .ok (.iconst 0, 1) := by decide +kernel
theorem dX6_init_78 : decode cX6_init 78 = .ok (.istore_n 1, 1) := by decide +kernel
theorem dX6_init_79 : decode cX6_init 79 = .ok (.iload_n 1, 1) := by decide +kernel
theorem dX6_init_80 : decode cX6_init 80 = .ok (.bipush 16, 2) := by decide +kernel
theorem dX6_init_82 : decode cX6_init 82 = .ok (.if_icmp .ge 16, 3) := by decide +kernel
theorem dX6_init_85 : decode cX6_init 85 = .ok (.aload_n 0, 1) := by decide +kernel
theorem dX6_init_86 : decode cX6_init 86 = .ok (.iload_n 1, 1) := by decide +kernel
theorem dX6_init_87 : decode cX6_init 87 = .ok (.bipush 10, 2) := by decide +kernel
theorem dX6_init_89 : decode cX6_init 89 = .ok (.invokevirtual 35, 3) := by decide +kernel
theorem dX6_init_92 : decode cX6_init 92 = .ok (.iinc 1 1, 3) := by decide +kernel
theorem dX6_init_95 : decode cX6_init 95 = .ok (.goto (-16), 3) := by decide +kernel
theorem dX6_init_98 : decode cX6_init 98 = .ok (.return_, 1) := by decide +kernel
theorem dX6_thrown_0 : decode cX6_thrown 0 = .ok (.aload_n 0, 1) := by decide +kernel
theorem dX6_thrown_1 : decode cX6_thrown 1 = .ok (.getfield 38, 3) := by decide +kernel
theorem dX6_thrown_4 : decode cX6_thrown 4 = .ok (.ireturn, 1) := by decide +kernel
theorem dX6_in_0 : decode cX6_in 0 = .ok (.lload_n 0, 1) := by decide +kernel
theorem dX6_in_1 : decode cX6_in 1 = .ok (.lload_n 2, 1) := by decide +kernel
theorem dX6_in_2 : decode cX6_in 2 = .ok (.lcmp, 1) := by decide +kernel
theorem dX6_in_3 : decode cX6_in 3 = .ok (.ifCond .lt 14, 3) := by decide +kernel
theorem dX6_in_6 : decode cX6_in 6 = .ok (.lload_n 0, 1) := by decide +kernel
theorem dX6_in_7 : decode cX6_in 7 = .ok (.lload 4, 2) := by decide +kernel
theorem dX6_in_9 : decode cX6_in 9 = .ok (.lcmp, 1) := by decide +kernel
theorem dX6_in_10 : decode cX6_in 10 = .ok (.ifCond .gt 7, 3) := by decide +kernel
theorem dX6_in_13 : decode cX6_in 13 = .ok (.iconst 1, 1) := by decide +kernel
theorem dX6_in_14 : decode cX6_in 14 = .ok (.goto 4, 3) := by decide +kernel
theorem dX6_in_17 : decode cX6_in 17 = .ok (.iconst 0, 1) := by decide +kernel
theorem dX6_in_18 : decode cX6_in 18 = .ok (.ireturn, 1) := by decide +kernel
theorem dX6_fine_0 : decode cX6_fine 0 = .ok (.aload_n 0, 1) := by decide +kernel
theorem dX6_fine_1 : decode cX6_fine 1 = .ok (.iconst 0, 1) := by decide +kernel
theorem dX6_fine_2 : decode cX6_fine 2 = .ok (.putfield 38, 3) := by decide +kernel
theorem dX6_fine_5 : decode cX6_fine 5 = .ok (.iload_n 1, 1) := by decide +kernel
theorem dX6_fine_6 : decode cX6_fine 6 = .ok (.ireturn, 1) := by decide +kernel
theorem dX6_throwing_0 : decode cX6_throwing 0 = .ok (.aload_n 0, 1) := by decide +kernel
theorem dX6_throwing_1 : decode cX6_throwing 1 = .ok (.iload_n 1, 1) := by decide +kernel
theorem dX6_throwing_2 : decode cX6_throwing 2 = .ok (.putfield 38, 3) := by decide +kernel
theorem dX6_throwing_5 : decode cX6_throwing 5 = .ok (.iconst 0, 1) := by decide +kernel
theorem dX6_throwing_6 : decode cX6_throwing 6 = .ok (.ireturn, 1) := by decide +kernel
theorem dX6_save_0 : decode cX6_save 0 = .ok (.aload_n 0, 1) := by decide +kernel
theorem dX6_save_1 : decode cX6_save 1 = .ok (.getfield 42, 3) := by decide +kernel
theorem dX6_save_4 : decode cX6_save 4 = .ok (.iconst 4, 1) := by decide +kernel
theorem dX6_save_5 : decode cX6_save 5 = .ok (.if_icmp .ne 44, 3) := by decide +kernel
theorem dX6_save_8 : decode cX6_save 8 = .ok (.iconst 0, 1) := by decide +kernel
theorem dX6_save_9 : decode cX6_save 9 = .ok (.istore_n 1, 1) := by decide +kernel
theorem dX6_save_10 : decode cX6_save 10 = .ok (.iload_n 1, 1) := by decide +kernel
theorem dX6_save_11 : decode cX6_save 11 = .ok (.sipush 678, 3) := by decide +kernel
theorem dX6_save_14 : decode cX6_save 14 = .ok (.if_icmp .ge 25, 3) := by decide +kernel
theorem dX6_save_17 : decode cX6_save 17 = .ok (.aload_n 0, 1) := by decide +kernel
theorem dX6_save_18 : decode cX6_save 18 = .ok (.getfield 13, 3) := by decide +kernel
theorem dX6_save_21 : decode cX6_save 21 = .ok (.iload_n 1, 1) := by decide +kernel
theorem dX6_save_22 : decode cX6_save 22 = .ok (.aload_n 0, 1) := by decide +kernel
theorem dX6_save_23 : decode cX6_save 23 = .ok (.getfield 13, 3) := by decide +kernel
theorem dX6_save_26 : decode cX6_save 26 = .ok (.iload_n 1, 1) := by decide +kernel
theorem dX6_save_27 : decode cX6_save 27 = .ok (.sipush 226, 3) := by decide +kernel
theorem dX6_save_30 : decode cX6_save 30 = .ok (.iadd, 1) := by decide +kernel
theorem dX6_save_31 : decode cX6_save 31 = .ok (.iaload, 1) := by decide +kernel
theorem dX6_save_32 : decode cX6_save 32 = .ok (.iastore, 1) := by decide +kernel
theorem dX6_save_33 : decode cX6_save 33 = .ok (.iinc 1 1, 3) := by decide +kernel
theorem dX6_save_36 : decode cX6_save 36 = .ok (.goto (-26), 3) := by decide +kernel
theorem dX6_save_39 : decode cX6_save 39 = .ok (.aload_n 0, 1) := by decide +kernel
theorem dX6_save_40 : decode cX6_save 40 = .ok (.dup, 1) := by decide +kernel
theorem dX6_save_41 : decode cX6_save 41 = .ok (.getfield 42, 3) := by decide +kernel
theorem dX6_save_44 : decode cX6_save 44 = .ok (.iconst 1, 1) := by decide +kernel
theorem dX6_save_45 : decode cX6_save 45 = .ok (.isub, 1) := by decide +kernel
theorem dX6_save_46 : decode cX6_save 46 = .ok (.putfield 42, 3) := by decide +kernel
theorem dX6_save_49 : decode cX6_save 49 = .ok (.iconst 0, 1) := by decide +kernel
theorem dX6_save_50 : decode cX6_save 50 = .ok (.istore_n 1, 1) := by decide +kernel
theorem dX6_save_51 : decode cX6_save 51 = .ok (.iload_n 1, 1) := by decide +kernel
theorem dX6_save_52 : decode cX6_save 52 = .ok (.sipush 226, 3) := by decide +kernel
theorem dX6_save_55 : decode cX6_save 55 = .ok (.if_icmp .ge 30, 3) := by decide +kernel
theorem dX6_save_58 : decode cX6_save 58 = .ok (.aload_n 0, 1) := by decide +kernel
theorem dX6_save_59 : decode cX6_save 59 = .ok (.getfield 13, 3) := by decide +kernel
theorem dX6_save_62 : decode cX6_save 62 = .ok (.sipush 226, 3) := by decide +kernel
theorem dX6_save_65 : decode cX6_save 65 = .ok (.aload_n 0, 1) := by decide +kernel
theorem dX6_save_66 : decode cX6_save 66 = .ok (.getfield 42, 3) := by decide +kernel
theorem dX6_save_69 : decode cX6_save 69 = .ok (.imul, 1) := by decide +kernel
theorem dX6_save_70 : decode cX6_save 70 = .ok (.iload_n 1, 1) := by decide +kernel
theorem dX6_save_71 : decode cX6_save 71 = .ok (.iadd, 1) := by decide +kernel
theorem dX6_save_72 : decode cX6_save 72 = .ok (.aload_n 0, 1) := by decide +kernel
theorem dX6_save_73 : decode cX6_save 73 = .ok (.getfield 7, 3) := by decide +kernel
theorem dX6_save_76 : decode cX6_save 76 = .ok (.iload_n 1, 1) := by decide +kernel
theorem dX6_save_77 : decode cX6_save 77 = .ok (.iaload, 1) := by decide +kernel
theorem dX6_save_78 : decode cX6_save 78 = .ok (.iastore, 1) := by decide +kernel
theorem dX6_save_79 : decode cX6_save 79 = .ok (.iinc 1 1, 3) := by decide +kernel
theorem dX6_save_82 : decode cX6_save 82 = .ok (.goto (-31), 3) := by decide +kernel
theorem dX6_save_85 : decode cX6_save 85 = .ok (.aload_n 0, 1) := by decide +kernel
theorem dX6_save_86 : decode cX6_save 86 = .ok (.dup, 1) := by decide +kernel
theorem dX6_save_87 : decode cX6_save 87 = .ok (.getfield 42, 3) := by decide +kernel
theorem dX6_save_90 : decode cX6_save 90 = .ok (.iconst 1, 1) := by decide +kernel
theorem dX6_save_91 : decode cX6_save 91 = .ok (.iadd, 1) := by decide +kernel
theorem dX6_save_92 : decode cX6_save 92 = .ok (.putfield 42, 3) := by decide +kernel
theorem dX6_save_95 : decode cX6_save 95 = .ok (.return_, 1) := by decide +kernel
theorem dX6_laysAside_0 : decode cX6_laysAside 0 = .ok (.iconst 0, 1) := by decide +kernel
theorem dX6_laysAside_1 : decode cX6_laysAside 1 = .ok (.istore_n 1, 1) := by decide +kernel
theorem dX6_laysAside_2 : decode cX6_laysAside 2 = .ok (.iload_n 1, 1) := by decide +kernel
theorem dX6_laysAside_3 : decode cX6_laysAside 3 = .ok (.sipush 226, 3) := by decide +kernel
theorem dX6_laysAside_6 : decode cX6_laysAside 6 = .ok (.if_icmp .ge 21, 3) := by decide +kernel
theorem dX6_laysAside_9 : decode cX6_laysAside 9 = .ok (.aload_n 0, 1) := by decide +kernel
theorem dX6_laysAside_10 : decode cX6_laysAside 10 = .ok (.getfield 16, 3) := by decide +kernel
theorem dX6_laysAside_13 : decode cX6_laysAside 13 = .ok (.iload_n 1, 1) := by decide +kernel
theorem dX6_laysAside_14 : decode cX6_laysAside 14 = .ok (.aload_n 0, 1) := by decide +kernel
theorem dX6_laysAside_15 : decode cX6_laysAside 15 = .ok (.getfield 7, 3) := by decide +kernel
theorem dX6_laysAside_18 : decode cX6_laysAside 18 = .ok (.iload_n 1, 1) := by decide +kernel
theorem dX6_laysAside_19 : decode cX6_laysAside 19 = .ok (.iaload, 1) := by decide +kernel
theorem dX6_laysAside_20 : decode cX6_laysAside 20 = .ok (.iastore, 1) := by decide +kernel
theorem dX6_laysAside_21 : decode cX6_laysAside 21 = .ok (.iinc 1 1, 3) := by decide +kernel
theorem dX6_laysAside_24 : decode cX6_laysAside 24 = .ok (.goto (-22), 3) := by decide +kernel
theorem dX6_laysAside_27 : decode cX6_laysAside 27 = .ok (.return_, 1) := by decide +kernel
theorem dX6_takesBack_0 : decode cX6_takesBack 0 = .ok (.iconst 0, 1) := by decide +kernel
theorem dX6_takesBack_1 : decode cX6_takesBack 1 = .ok (.istore_n 1, 1) := by decide +kernel
theorem dX6_takesBack_2 : decode cX6_takesBack 2 = .ok (.iload_n 1, 1) := by decide +kernel
theorem dX6_takesBack_3 : decode cX6_takesBack 3 = .ok (.sipush 226, 3) := by decide +kernel
theorem dX6_takesBack_6 : decode cX6_takesBack 6 = .ok (.if_icmp .ge 21, 3) := by decide +kernel
theorem dX6_takesBack_9 : decode cX6_takesBack 9 = .ok (.aload_n 0, 1) := by decide +kernel
theorem dX6_takesBack_10 : decode cX6_takesBack 10 = .ok (.getfield 7, 3) := by decide +kernel
theorem dX6_takesBack_13 : decode cX6_takesBack 13 = .ok (.iload_n 1, 1) := by decide +kernel
theorem dX6_takesBack_14 : decode cX6_takesBack 14 = .ok (.aload_n 0, 1) := by decide +kernel
theorem dX6_takesBack_15 : decode cX6_takesBack 15 = .ok (.getfield 16, 3) := by decide +kernel
theorem dX6_takesBack_18 : decode cX6_takesBack 18 = .ok (.iload_n 1, 1) := by decide +kernel
theorem dX6_takesBack_19 : decode cX6_takesBack 19 = .ok (.iaload, 1) := by decide +kernel
theorem dX6_takesBack_20 : decode cX6_takesBack 20 = .ok (.iastore, 1) := by decide +kernel
theorem dX6_takesBack_21 : decode cX6_takesBack 21 = .ok (.iinc 1 1, 3) := by decide +kernel
theorem dX6_takesBack_24 : decode cX6_takesBack 24 = .ok (.goto (-22), 3) := by decide +kernel
theorem dX6_takesBack_27 : decode cX6_takesBack 27 = .ok (.return_, 1) := by decide +kernel
theorem dX6_makes_0 : decode cX6_makes 0 = .ok (.aload_n 0, 1) := by decide +kernel
theorem dX6_makes_1 : decode cX6_makes 1 = .ok (.getfield 7, 3) := by decide +kernel
theorem dX6_makes_4 : decode cX6_makes 4 = .ok (.iconst 2, 1) := by decide +kernel
theorem dX6_makes_5 : decode cX6_makes 5 = .ok (.iaload, 1) := by decide +kernel
theorem dX6_makes_6 : decode cX6_makes 6 = .ok (.istore_n 3, 1) := by decide +kernel
theorem dX6_makes_7 : decode cX6_makes 7 = .ok (.iconst 0, 1) := by decide +kernel
theorem dX6_makes_8 : decode cX6_makes 8 = .ok (.istore 4, 2) := by decide +kernel
theorem dX6_makes_10 : decode cX6_makes 10 = .ok (.iload 4, 2) := by decide +kernel
theorem dX6_makes_12 : decode cX6_makes 12 = .ok (.sipush 226, 3) := by decide +kernel
theorem dX6_makes_15 : decode cX6_makes 15 = .ok (.if_icmp .ge 17, 3) := by decide +kernel
theorem dX6_makes_18 : decode cX6_makes 18 = .ok (.aload_n 0, 1) := by decide +kernel
theorem dX6_makes_19 : decode cX6_makes 19 = .ok (.getfield 7, 3) := by decide +kernel
theorem dX6_makes_22 : decode cX6_makes 22 = .ok (.iload 4, 2) := by decide +kernel
theorem dX6_makes_24 : decode cX6_makes 24 = .ok (.iconst 0, 1) := by decide +kernel
theorem dX6_makes_25 : decode cX6_makes 25 = .ok (.iastore, 1) := by decide +kernel
theorem dX6_makes_26 : decode cX6_makes 26 = .ok (.iinc 4 1, 3) := by decide +kernel
theorem dX6_makes_29 : decode cX6_makes 29 = .ok (.goto (-19), 3) := by decide +kernel
theorem dX6_makes_32 : decode cX6_makes 32 = .ok (.aload_n 0, 1) := by decide +kernel
theorem dX6_makes_33 : decode cX6_makes 33 = .ok (.getfield 7, 3) := by decide +kernel
theorem dX6_makes_36 : decode cX6_makes 36 = .ok (.iconst 2, 1) := by decide +kernel
theorem dX6_makes_37 : decode cX6_makes 37 = .ok (.iload_n 3, 1) := by decide +kernel
theorem dX6_makes_38 : decode cX6_makes 38 = .ok (.iastore, 1) := by decide +kernel
theorem dX6_makes_39 : decode cX6_makes 39 = .ok (.aload_n 0, 1) := by decide +kernel
theorem dX6_makes_40 : decode cX6_makes 40 = .ok (.getfield 7, 3) := by decide +kernel
theorem dX6_makes_43 : decode cX6_makes 43 = .ok (.iconst 0, 1) := by decide +kernel
theorem dX6_makes_44 : decode cX6_makes 44 = .ok (.iload_n 1, 1) := by decide +kernel
theorem dX6_makes_45 : decode cX6_makes 45 = .ok (.iastore, 1) := by decide +kernel
theorem dX6_makes_46 : decode cX6_makes 46 = .ok (.aload_n 0, 1) := by decide +kernel
theorem dX6_makes_47 : decode cX6_makes 47 = .ok (.getfield 7, 3) := by decide +kernel
theorem dX6_makes_50 : decode cX6_makes 50 = .ok (.iconst 1, 1) := by decide +kernel
theorem dX6_makes_51 : decode cX6_makes 51 = .ok (.iload_n 2, 1) := by decide +kernel
theorem dX6_makes_52 : decode cX6_makes 52 = .ok (.iastore, 1) := by decide +kernel
theorem dX6_makes_53 : decode cX6_makes 53 = .ok (.return_, 1) := by decide +kernel
theorem dX6_puts_0 : decode cX6_puts 0 = .ok (.aload_n 0, 1) := by decide +kernel
theorem dX6_puts_1 : decode cX6_puts 1 = .ok (.getfield 7, 3) := by decide +kernel
theorem dX6_puts_4 : decode cX6_puts 4 = .ok (.bipush 8, 2) := by decide +kernel
theorem dX6_puts_6 : decode cX6_puts 6 = .ok (.iload_n 1, 1) := by decide +kernel
theorem dX6_puts_7 : decode cX6_puts 7 = .ok (.iadd, 1) := by decide +kernel
theorem dX6_puts_8 : decode cX6_puts 8 = .ok (.dup2, 1) := by decide +kernel
theorem dX6_puts_9 : decode cX6_puts 9 = .ok (.iaload, 1) := by decide +kernel
theorem dX6_puts_10 : decode cX6_puts 10 = .ok (.iload_n 2, 1) := by decide +kernel
theorem dX6_puts_11 : decode cX6_puts 11 = .ok (.iadd, 1) := by decide +kernel
theorem dX6_puts_12 : decode cX6_puts 12 = .ok (.iastore, 1) := by decide +kernel
theorem dX6_puts_13 : decode cX6_puts 13 = .ok (.aload_n 0, 1) := by decide +kernel
theorem dX6_puts_14 : decode cX6_puts 14 = .ok (.getfield 7, 3) := by decide +kernel
theorem dX6_puts_17 : decode cX6_puts 17 = .ok (.iconst 4, 1) := by decide +kernel
theorem dX6_puts_18 : decode cX6_puts 18 = .ok (.dup2, 1) := by decide +kernel
theorem dX6_puts_19 : decode cX6_puts 19 = .ok (.iaload, 1) := by decide +kernel
theorem dX6_puts_20 : decode cX6_puts 20 = .ok (.iload_n 2, 1) := by decide +kernel
theorem dX6_puts_21 : decode cX6_puts 21 = .ok (.iadd, 1) := by decide +kernel
theorem dX6_puts_22 : decode cX6_puts 22 = .ok (.iastore, 1) := by decide +kernel
theorem dX6_puts_23 : decode cX6_puts 23 = .ok (.return_, 1) := by decide +kernel
theorem dX6_cells_0 : decode cX6_cells 0 = .ok (.aload_n 0, 1) := by decide +kernel
theorem dX6_cells_1 : decode cX6_cells 1 = .ok (.getfield 7, 3) := by decide +kernel
theorem dX6_cells_4 : decode cX6_cells 4 = .ok (.iconst 0, 1) := by decide +kernel
theorem dX6_cells_5 : decode cX6_cells 5 = .ok (.iaload, 1) := by decide +kernel
theorem dX6_cells_6 : decode cX6_cells 6 = .ok (.aload_n 0, 1) := by decide +kernel
theorem dX6_cells_7 : decode cX6_cells 7 = .ok (.getfield 7, 3) := by decide +kernel
theorem dX6_cells_10 : decode cX6_cells 10 = .ok (.iconst 1, 1) := by decide +kernel
theorem dX6_cells_11 : decode cX6_cells 11 = .ok (.iaload, 1) := by decide +kernel
theorem dX6_cells_12 : decode cX6_cells 12 = .ok (.imul, 1) := by decide +kernel
theorem dX6_cells_13 : decode cX6_cells 13 = .ok (.ireturn, 1) := by decide +kernel
theorem dX6_isCell_0 : decode cX6_isCell 0 = .ok (.iload_n 1, 1) := by decide +kernel
theorem dX6_isCell_1 : decode cX6_isCell 1 = .ok (.i2l, 1) := by decide +kernel
theorem dX6_isCell_2 : decode cX6_isCell 2 = .ok (.lconst 0, 1) := by decide +kernel
theorem dX6_isCell_3 : decode cX6_isCell 3 = .ok (.aload_n 0, 1) := by decide +kernel
theorem dX6_isCell_4 : decode cX6_isCell 4 = .ok (.invokevirtual 45, 3) := by decide +kernel
theorem dX6_isCell_7 : decode cX6_isCell 7 = .ok (.i2l, 1) := by decide +kernel
theorem dX6_isCell_8 : decode cX6_isCell 8 = .ok (.lconst 1, 1) := by decide +kernel
theorem dX6_isCell_9 : decode cX6_isCell 9 = .ok (.lsub, 1) := by decide +kernel
theorem dX6_isCell_10 : decode cX6_isCell 10 = .ok (.invokestatic 49, 3) := by decide +kernel
theorem dX6_isCell_13 : decode cX6_isCell 13 = .ok (.ireturn, 1) := by decide +kernel
theorem dX6_row_0 : decode cX6_row 0 = .ok (.iload_n 1, 1) := by decide +kernel
theorem dX6_row_1 : decode cX6_row 1 = .ok (.aload_n 0, 1) := by decide +kernel
theorem dX6_row_2 : decode cX6_row 2 = .ok (.getfield 7, 3) := by decide +kernel
theorem dX6_row_5 : decode cX6_row 5 = .ok (.iconst 0, 1) := by decide +kernel
theorem dX6_row_6 : decode cX6_row 6 = .ok (.iaload, 1) := by decide +kernel
theorem dX6_row_7 : decode cX6_row 7 = .ok (.idiv, 1) := by decide +kernel
theorem dX6_row_8 : decode cX6_row 8 = .ok (.ireturn, 1) := by decide +kernel
theorem dX6_column_0 : decode cX6_column 0 = .ok (.iload_n 1, 1) := by decide +kernel
theorem dX6_column_1 : decode cX6_column 1 = .ok (.aload_n 0, 1) := by decide +kernel
theorem dX6_column_2 : decode cX6_column 2 = .ok (.getfield 7, 3) := by decide +kernel
theorem dX6_column_5 : decode cX6_column 5 = .ok (.iconst 0, 1) := by decide +kernel
theorem dX6_column_6 : decode cX6_column 6 = .ok (.iaload, 1) := by decide +kernel
theorem dX6_column_7 : decode cX6_column 7 = .ok (.irem, 1) := by decide +kernel
theorem dX6_column_8 : decode cX6_column 8 = .ok (.ireturn, 1) := by decide +kernel
theorem dX6_isIce_0 : decode cX6_isIce 0 = .ok (.aload_n 0, 1) := by decide +kernel
theorem dX6_isIce_1 : decode cX6_isIce 1 = .ok (.getfield 7, 3) := by decide +kernel
theorem dX6_isIce_4 : decode cX6_isIce 4 = .ok (.bipush 8, 2) := by decide +kernel
theorem dX6_isIce_6 : decode cX6_isIce 6 = .ok (.iload_n 1, 1) := by decide +kernel
theorem dX6_isIce_7 : decode cX6_isIce 7 = .ok (.iadd, 1) := by decide +kernel
theorem dX6_isIce_8 : decode cX6_isIce 8 = .ok (.iaload, 1) := by decide +kernel
theorem dX6_isIce_9 : decode cX6_isIce 9 = .ok (.ifCond .le 7, 3) := by decide +kernel
theorem dX6_isIce_12 : decode cX6_isIce 12 = .ok (.iconst 1, 1) := by decide +kernel
theorem dX6_isIce_13 : decode cX6_isIce 13 = .ok (.goto 4, 3) := by decide +kernel
theorem dX6_isIce_16 : decode cX6_isIce 16 = .ok (.iconst 0, 1) := by decide +kernel
theorem dX6_isIce_17 : decode cX6_isIce 17 = .ok (.ireturn, 1) := by decide +kernel
theorem dX6_make_0 : decode cX6_make 0 = .ok (.iload_n 1, 1) := by decide +kernel
theorem dX6_make_1 : decode cX6_make 1 = .ok (.i2l, 1) := by decide +kernel
theorem dX6_make_2 : decode cX6_make 2 = .ok (.ldc2_w 53, 3) := by decide +kernel
theorem dX6_make_5 : decode cX6_make 5 = .ok (.ldc2_w 55, 3) := by decide +kernel
theorem dX6_make_8 : decode cX6_make 8 = .ok (.invokestatic 49, 3) := by decide +kernel
theorem dX6_make_11 : decode cX6_make 11 = .ok (.ifCond .eq 29, 3) := by decide +kernel
theorem dX6_make_14 : decode cX6_make 14 = .ok (.iload_n 2, 1) := by decide +kernel
theorem dX6_make_15 : decode cX6_make 15 = .ok (.i2l, 1) := by decide +kernel
theorem dX6_make_16 : decode cX6_make 16 = .ok (.ldc2_w 53, 3) := by decide +kernel
theorem dX6_make_19 : decode cX6_make 19 = .ok (.ldc2_w 55, 3) := by decide +kernel
theorem dX6_make_22 : decode cX6_make 22 = .ok (.invokestatic 49, 3) := by decide +kernel
theorem dX6_make_25 : decode cX6_make 25 = .ok (.ifCond .eq 15, 3) := by decide +kernel
theorem dX6_make_28 : decode cX6_make 28 = .ok (.iload_n 3, 1) := by decide +kernel
theorem dX6_make_29 : decode cX6_make 29 = .ok (.i2l, 1) := by decide +kernel
theorem dX6_make_30 : decode cX6_make 30 = .ok (.lconst 0, 1) := by decide +kernel
theorem dX6_make_31 : decode cX6_make 31 = .ok (.ldc2_w 57, 3) := by decide +kernel
theorem dX6_make_34 : decode cX6_make 34 = .ok (.invokestatic 49, 3) := by decide +kernel
theorem dX6_make_37 : decode cX6_make 37 = .ok (.ifCond .ne 9, 3) := by decide +kernel
theorem dX6_make_40 : decode cX6_make 40 = .ok (.aload_n 0, 1) := by decide +kernel
theorem dX6_make_41 : decode cX6_make 41 = .ok (.iconst 1, 1) := by decide +kernel
theorem dX6_make_42 : decode cX6_make 42 = .ok (.invokevirtual 59, 3) := by decide +kernel
theorem dX6_make_45 : decode cX6_make 45 = .ok (.ireturn, 1) := by decide +kernel
theorem dX6_make_46 : decode cX6_make 46 = .ok (.aload_n 0, 1) := by decide +kernel
theorem dX6_make_47 : decode cX6_make 47 = .ok (.invokevirtual 63, 3) := by decide +kernel
theorem dX6_make_50 : decode cX6_make 50 = .ok (.aload_n 0, 1) := by decide +kernel
theorem dX6_make_51 : decode cX6_make 51 = .ok (.iload_n 1, 1) := by decide +kernel
theorem dX6_make_52 : decode cX6_make 52 = .ok (.iload_n 2, 1) := by decide +kernel
theorem dX6_make_53 : decode cX6_make 53 = .ok (.invokevirtual 31, 3) := by decide +kernel
theorem dX6_make_56 : decode cX6_make 56 = .ok (.iconst 0, 1) := by decide +kernel
theorem dX6_make_57 : decode cX6_make 57 = .ok (.istore 4, 2) := by decide +kernel
theorem dX6_make_59 : decode cX6_make 59 = .ok (.iload 4, 2) := by decide +kernel
theorem dX6_make_61 : decode cX6_make 61 = .ok (.iload_n 1, 1) := by decide +kernel
theorem dX6_make_62 : decode cX6_make 62 = .ok (.iload_n 2, 1) := by decide +kernel
theorem dX6_make_63 : decode cX6_make 63 = .ok (.imul, 1) := by decide +kernel
theorem dX6_make_64 : decode cX6_make 64 = .ok (.if_icmp .ge 16, 3) := by decide +kernel
theorem dX6_make_67 : decode cX6_make 67 = .ok (.aload_n 0, 1) := by decide +kernel
theorem dX6_make_68 : decode cX6_make 68 = .ok (.iload 4, 2) := by decide +kernel
theorem dX6_make_70 : decode cX6_make 70 = .ok (.iload_n 3, 1) := by decide +kernel
theorem dX6_make_71 : decode cX6_make 71 = .ok (.invokevirtual 35, 3) := by decide +kernel
theorem dX6_make_74 : decode cX6_make 74 = .ok (.iinc 4 1, 3) := by decide +kernel
theorem dX6_make_77 : decode cX6_make 77 = .ok (.goto (-18), 3) := by decide +kernel
theorem dX6_make_80 : decode cX6_make 80 = .ok (.aload_n 0, 1) := by decide +kernel
theorem dX6_make_81 : decode cX6_make 81 = .ok (.aload_n 0, 1) := by decide +kernel
theorem dX6_make_82 : decode cX6_make 82 = .ok (.getfield 7, 3) := by decide +kernel
theorem dX6_make_85 : decode cX6_make 85 = .ok (.iconst 4, 1) := by decide +kernel
theorem dX6_make_86 : decode cX6_make 86 = .ok (.iaload, 1) := by decide +kernel
theorem dX6_make_87 : decode cX6_make 87 = .ok (.invokevirtual 66, 3) := by decide +kernel
theorem dX6_make_90 : decode cX6_make 90 = .ok (.ireturn, 1) := by decide +kernel
theorem dX6_lay_0 : decode cX6_lay 0 = .ok (.aload_n 0, 1) := by decide +kernel
theorem dX6_lay_1 : decode cX6_lay 1 = .ok (.iload_n 1, 1) := by decide +kernel
theorem dX6_lay_2 : decode cX6_lay 2 = .ok (.invokevirtual 69, 3) := by decide +kernel
theorem dX6_lay_5 : decode cX6_lay 5 = .ok (.ifCond .ne 9, 3) := by decide +kernel
theorem dX6_lay_8 : decode cX6_lay 8 = .ok (.aload_n 0, 1) := by decide +kernel
theorem dX6_lay_9 : decode cX6_lay 9 = .ok (.iconst 1, 1) := by decide +kernel
theorem dX6_lay_10 : decode cX6_lay 10 = .ok (.invokevirtual 59, 3) := by decide +kernel
theorem dX6_lay_13 : decode cX6_lay 13 = .ok (.ireturn, 1) := by decide +kernel
theorem dX6_lay_14 : decode cX6_lay 14 = .ok (.iload_n 2, 1) := by decide +kernel
theorem dX6_lay_15 : decode cX6_lay 15 = .ok (.i2l, 1) := by decide +kernel
theorem dX6_lay_16 : decode cX6_lay 16 = .ok (.lconst 1, 1) := by decide +kernel
theorem dX6_lay_17 : decode cX6_lay 17 = .ok (.ldc2_w 57, 3) := by decide +kernel
theorem dX6_lay_20 : decode cX6_lay 20 = .ok (.invokestatic 49, 3) := by decide +kernel
theorem dX6_lay_23 : decode cX6_lay 23 = .ok (.ifCond .ne 9, 3) := by decide +kernel
theorem dX6_lay_26 : decode cX6_lay 26 = .ok (.aload_n 0, 1) := by decide +kernel
theorem dX6_lay_27 : decode cX6_lay 27 = .ok (.iconst 2, 1) := by decide +kernel
theorem dX6_lay_28 : decode cX6_lay 28 = .ok (.invokevirtual 59, 3) := by decide +kernel
theorem dX6_lay_31 : decode cX6_lay 31 = .ok (.ireturn, 1) := by decide +kernel
theorem dX6_lay_32 : decode cX6_lay 32 = .ok (.aload_n 0, 1) := by decide +kernel
theorem dX6_lay_33 : decode cX6_lay 33 = .ok (.getfield 7, 3) := by decide +kernel
theorem dX6_lay_36 : decode cX6_lay 36 = .ok (.bipush 8, 2) := by decide +kernel
theorem dX6_lay_38 : decode cX6_lay 38 = .ok (.iload_n 1, 1) := by decide +kernel
theorem dX6_lay_39 : decode cX6_lay 39 = .ok (.iadd, 1) := by decide +kernel
theorem dX6_lay_40 : decode cX6_lay 40 = .ok (.iaload, 1) := by decide +kernel
theorem dX6_lay_41 : decode cX6_lay 41 = .ok (.iload_n 2, 1) := by decide +kernel
theorem dX6_lay_42 : decode cX6_lay 42 = .ok (.iadd, 1) := by decide +kernel
theorem dX6_lay_43 : decode cX6_lay 43 = .ok (.bipush 50, 2) := by decide +kernel
theorem dX6_lay_45 : decode cX6_lay 45 = .ok (.if_icmp .le 9, 3) := by decide +kernel
theorem dX6_lay_48 : decode cX6_lay 48 = .ok (.aload_n 0, 1) := by decide +kernel
theorem dX6_lay_49 : decode cX6_lay 49 = .ok (.iconst 3, 1) := by decide +kernel
theorem dX6_lay_50 : decode cX6_lay 50 = .ok (.invokevirtual 59, 3) := by decide +kernel
theorem dX6_lay_53 : decode cX6_lay 53 = .ok (.ireturn, 1) := by decide +kernel
theorem dX6_lay_54 : decode cX6_lay 54 = .ok (.aload_n 0, 1) := by decide +kernel
theorem dX6_lay_55 : decode cX6_lay 55 = .ok (.invokevirtual 63, 3) := by decide +kernel
theorem dX6_lay_58 : decode cX6_lay 58 = .ok (.aload_n 0, 1) := by decide +kernel
theorem dX6_lay_59 : decode cX6_lay 59 = .ok (.iload_n 1, 1) := by decide +kernel
theorem dX6_lay_60 : decode cX6_lay 60 = .ok (.iload_n 2, 1) := by decide +kernel
theorem dX6_lay_61 : decode cX6_lay 61 = .ok (.invokevirtual 35, 3) := by decide +kernel
theorem dX6_lay_64 : decode cX6_lay 64 = .ok (.aload_n 0, 1) := by decide +kernel
theorem dX6_lay_65 : decode cX6_lay 65 = .ok (.aload_n 0, 1) := by decide +kernel
theorem dX6_lay_66 : decode cX6_lay 66 = .ok (.getfield 7, 3) := by decide +kernel
theorem dX6_lay_69 : decode cX6_lay 69 = .ok (.bipush 8, 2) := by decide +kernel
theorem dX6_lay_71 : decode cX6_lay 71 = .ok (.iload_n 1, 1) := by decide +kernel
theorem dX6_lay_72 : decode cX6_lay 72 = .ok (.iadd, 1) := by decide +kernel
theorem dX6_lay_73 : decode cX6_lay 73 = .ok (.iaload, 1) := by decide +kernel
theorem dX6_lay_74 : decode cX6_lay 74 = .ok (.invokevirtual 66, 3) := by decide +kernel
theorem dX6_lay_77 : decode cX6_lay 77 = .ok (.ireturn, 1) := by decide +kernel
theorem dX6_canSaw_0 : decode cX6_canSaw 0 = .ok (.iload_n 2, 1) := by decide +kernel
theorem dX6_canSaw_1 : decode cX6_canSaw 1 = .ok (.tableswitch 89 0 3 #[31, 53, 89, 75], 31) := by decide +kernel
theorem dX6_canSaw_32 : decode cX6_canSaw 32 = .ok (.aload_n 0, 1) := by decide +kernel
theorem dX6_canSaw_33 : decode cX6_canSaw 33 = .ok (.iload_n 1, 1) := by decide +kernel
theorem dX6_canSaw_34 : decode cX6_canSaw 34 = .ok (.invokevirtual 73, 3) := by decide +kernel
theorem dX6_canSaw_37 : decode cX6_canSaw 37 = .ok (.aload_n 0, 1) := by decide +kernel
theorem dX6_canSaw_38 : decode cX6_canSaw 38 = .ok (.getfield 7, 3) := by decide +kernel
theorem dX6_canSaw_41 : decode cX6_canSaw 41 = .ok (.iconst 0, 1) := by decide +kernel
theorem dX6_canSaw_42 : decode cX6_canSaw 42 = .ok (.iaload, 1) := by decide +kernel
theorem dX6_canSaw_43 : decode cX6_canSaw 43 = .ok (.iconst 1, 1) := by decide +kernel
theorem dX6_canSaw_44 : decode cX6_canSaw 44 = .ok (.isub, 1) := by decide +kernel
theorem dX6_canSaw_45 : decode cX6_canSaw 45 = .ok (.if_icmp .ge 7, 3) := by decide +kernel
theorem dX6_canSaw_48 : decode cX6_canSaw 48 = .ok (.iconst 1, 1) := by decide +kernel
theorem dX6_canSaw_49 : decode cX6_canSaw 49 = .ok (.goto 4, 3) := by decide +kernel
theorem dX6_canSaw_52 : decode cX6_canSaw 52 = .ok (.iconst 0, 1) := by decide +kernel
theorem dX6_canSaw_53 : decode cX6_canSaw 53 = .ok (.ireturn, 1) := by decide +kernel
theorem dX6_canSaw_54 : decode cX6_canSaw 54 = .ok (.aload_n 0, 1) := by decide +kernel
theorem dX6_canSaw_55 : decode cX6_canSaw 55 = .ok (.iload_n 1, 1) := by decide +kernel
theorem dX6_canSaw_56 : decode cX6_canSaw 56 = .ok (.invokevirtual 76, 3) := by decide +kernel
theorem dX6_canSaw_59 : decode cX6_canSaw 59 = .ok (.aload_n 0, 1) := by decide +kernel
theorem dX6_canSaw_60 : decode cX6_canSaw 60 = .ok (.getfield 7, 3) := by decide +kernel
theorem dX6_canSaw_63 : decode cX6_canSaw 63 = .ok (.iconst 1, 1) := by decide +kernel
theorem dX6_canSaw_64 : decode cX6_canSaw 64 = .ok (.iaload, 1) := by decide +kernel
theorem dX6_canSaw_65 : decode cX6_canSaw 65 = .ok (.iconst 1, 1) := by decide +kernel
theorem dX6_canSaw_66 : decode cX6_canSaw 66 = .ok (.isub, 1) := by decide +kernel
theorem dX6_canSaw_67 : decode cX6_canSaw 67 = .ok (.if_icmp .ge 7, 3) := by decide +kernel
theorem dX6_canSaw_70 : decode cX6_canSaw 70 = .ok (.iconst 1, 1) := by decide +kernel
theorem dX6_canSaw_71 : decode cX6_canSaw 71 = .ok (.goto 4, 3) := by decide +kernel
theorem dX6_canSaw_74 : decode cX6_canSaw 74 = .ok (.iconst 0, 1) := by decide +kernel
theorem dX6_canSaw_75 : decode cX6_canSaw 75 = .ok (.ireturn, 1) := by decide +kernel
theorem dX6_canSaw_76 : decode cX6_canSaw 76 = .ok (.aload_n 0, 1) := by decide +kernel
theorem dX6_canSaw_77 : decode cX6_canSaw 77 = .ok (.iload_n 1, 1) := by decide +kernel
theorem dX6_canSaw_78 : decode cX6_canSaw 78 = .ok (.invokevirtual 73, 3) := by decide +kernel
theorem dX6_canSaw_81 : decode cX6_canSaw 81 = .ok (.ifCond .le 7, 3) := by decide +kernel
theorem dX6_canSaw_84 : decode cX6_canSaw 84 = .ok (.iconst 1, 1) := by decide +kernel
theorem dX6_canSaw_85 : decode cX6_canSaw 85 = .ok (.goto 4, 3) := by decide +kernel
theorem dX6_canSaw_88 : decode cX6_canSaw 88 = .ok (.iconst 0, 1) := by decide +kernel
theorem dX6_canSaw_89 : decode cX6_canSaw 89 = .ok (.ireturn, 1) := by decide +kernel
theorem dX6_canSaw_90 : decode cX6_canSaw 90 = .ok (.iconst 1, 1) := by decide +kernel
theorem dX6_canSaw_91 : decode cX6_canSaw 91 = .ok (.ireturn, 1) := by decide +kernel
theorem dX6_keeper_0 : decode cX6_keeper 0 = .ok (.iload_n 2, 1) := by decide +kernel
theorem dX6_keeper_1 : decode cX6_keeper 1 = .ok (.iconst 3, 1) := by decide +kernel
theorem dX6_keeper_2 : decode cX6_keeper 2 = .ok (.if_icmp .ne 9, 3) := by decide +kernel
theorem dX6_keeper_5 : decode cX6_keeper 5 = .ok (.iload_n 1, 1) := by decide +kernel
theorem dX6_keeper_6 : decode cX6_keeper 6 = .ok (.iconst 1, 1) := by decide +kernel
theorem dX6_keeper_7 : decode cX6_keeper 7 = .ok (.isub, 1) := by decide +kernel
theorem dX6_keeper_8 : decode cX6_keeper 8 = .ok (.goto 28, 3) := by decide +kernel
theorem dX6_keeper_11 : decode cX6_keeper 11 = .ok (.iload_n 2, 1) := by decide +kernel
theorem dX6_keeper_12 : decode cX6_keeper 12 = .ok (.iconst 2, 1) := by decide +kernel
theorem dX6_keeper_13 : decode cX6_keeper 13 = .ok (.if_icmp .ne 22, 3) := by decide +kernel
theorem dX6_keeper_16 : decode cX6_keeper 16 = .ok (.aload_n 0, 1) := by decide +kernel
theorem dX6_keeper_17 : decode cX6_keeper 17 = .ok (.iload_n 1, 1) := by decide +kernel
theorem dX6_keeper_18 : decode cX6_keeper 18 = .ok (.invokevirtual 76, 3) := by decide +kernel
theorem dX6_keeper_21 : decode cX6_keeper 21 = .ok (.ifCond .le 14, 3) := by decide +kernel
theorem dX6_keeper_24 : decode cX6_keeper 24 = .ok (.iload_n 1, 1) := by decide +kernel
theorem dX6_keeper_25 : decode cX6_keeper 25 = .ok (.aload_n 0, 1) := by decide +kernel
theorem dX6_keeper_26 : decode cX6_keeper 26 = .ok (.getfield 7, 3) := by decide +kernel
theorem dX6_keeper_29 : decode cX6_keeper 29 = .ok (.iconst 0, 1) := by decide +kernel
theorem dX6_keeper_30 : decode cX6_keeper 30 = .ok (.iaload, 1) := by decide +kernel
theorem dX6_keeper_31 : decode cX6_keeper 31 = .ok (.isub, 1) := by decide +kernel
theorem dX6_keeper_32 : decode cX6_keeper 32 = .ok (.goto 4, 3) := by decide +kernel
theorem dX6_keeper_35 : decode cX6_keeper 35 = .ok (.iload_n 1, 1) := by decide +kernel
theorem dX6_keeper_36 : decode cX6_keeper 36 = .ok (.ireturn, 1) := by decide +kernel
theorem dX6_bit_0 : decode cX6_bit 0 = .ok (.iload_n 2, 1) := by decide +kernel
theorem dX6_bit_1 : decode cX6_bit 1 = .ok (.ifCond .eq 8, 3) := by decide +kernel
theorem dX6_bit_4 : decode cX6_bit 4 = .ok (.iload_n 2, 1) := by decide +kernel
theorem dX6_bit_5 : decode cX6_bit 5 = .ok (.iconst 3, 1) := by decide +kernel
theorem dX6_bit_6 : decode cX6_bit 6 = .ok (.if_icmp .ne 7, 3) := by decide +kernel
theorem dX6_bit_9 : decode cX6_bit 9 = .ok (.iconst 1, 1) := by decide +kernel
theorem dX6_bit_10 : decode cX6_bit 10 = .ok (.goto 21, 3) := by decide +kernel
theorem dX6_bit_13 : decode cX6_bit 13 = .ok (.iload_n 2, 1) := by decide +kernel
theorem dX6_bit_14 : decode cX6_bit 14 = .ok (.iconst 1, 1) := by decide +kernel
theorem dX6_bit_15 : decode cX6_bit 15 = .ok (.if_icmp .eq 11, 3) := by decide +kernel
theorem dX6_bit_18 : decode cX6_bit 18 = .ok (.aload_n 0, 1) := by decide +kernel
theorem dX6_bit_19 : decode cX6_bit 19 = .ok (.iload_n 1, 1) := by decide +kernel
theorem dX6_bit_20 : decode cX6_bit 20 = .ok (.invokevirtual 76, 3) := by decide +kernel
theorem dX6_bit_23 : decode cX6_bit 23 = .ok (.ifCond .le 7, 3) := by decide +kernel
theorem dX6_bit_26 : decode cX6_bit 26 = .ok (.iconst 2, 1) := by decide +kernel
theorem dX6_bit_27 : decode cX6_bit 27 = .ok (.goto 4, 3) := by decide +kernel
theorem dX6_bit_30 : decode cX6_bit 30 = .ok (.iconst 4, 1) := by decide +kernel
theorem dX6_bit_31 : decode cX6_bit 31 = .ok (.ireturn, 1) := by decide +kernel
theorem dX6_isCut_0 : decode cX6_isCut 0 = .ok (.aload_n 0, 1) := by decide +kernel
theorem dX6_isCut_1 : decode cX6_isCut 1 = .ok (.iload_n 1, 1) := by decide +kernel
theorem dX6_isCut_2 : decode cX6_isCut 2 = .ok (.iload_n 2, 1) := by decide +kernel
theorem dX6_isCut_3 : decode cX6_isCut 3 = .ok (.invokevirtual 79, 3) := by decide +kernel
theorem dX6_isCut_6 : decode cX6_isCut 6 = .ok (.ifCond .eq 31, 3) := by decide +kernel
theorem dX6_isCut_9 : decode cX6_isCut 9 = .ok (.aload_n 0, 1) := by decide +kernel
theorem dX6_isCut_10 : decode cX6_isCut 10 = .ok (.getfield 7, 3) := by decide +kernel
theorem dX6_isCut_13 : decode cX6_isCut 13 = .ok (.bipush 57, 2) := by decide +kernel
theorem dX6_isCut_15 : decode cX6_isCut 15 = .ok (.aload_n 0, 1) := by decide +kernel
theorem dX6_isCut_16 : decode cX6_isCut 16 = .ok (.iload_n 1, 1) := by decide +kernel
theorem dX6_isCut_17 : decode cX6_isCut 17 = .ok (.iload_n 2, 1) := by decide +kernel
theorem dX6_isCut_18 : decode cX6_isCut 18 = .ok (.invokevirtual 83, 3) := by decide +kernel
theorem dX6_isCut_21 : decode cX6_isCut 21 = .ok (.iadd, 1) := by decide +kernel
theorem dX6_isCut_22 : decode cX6_isCut 22 = .ok (.iaload, 1) := by decide +kernel
theorem dX6_isCut_23 : decode cX6_isCut 23 = .ok (.aload_n 0, 1) := by decide +kernel
theorem dX6_isCut_24 : decode cX6_isCut 24 = .ok (.iload_n 1, 1) := by decide +kernel
theorem dX6_isCut_25 : decode cX6_isCut 25 = .ok (.iload_n 2, 1) := by decide +kernel
theorem dX6_isCut_26 : decode cX6_isCut 26 = .ok (.invokevirtual 87, 3) := by decide +kernel
theorem dX6_isCut_29 : decode cX6_isCut 29 = .ok (.iand, 1) := by decide +kernel
theorem dX6_isCut_30 : decode cX6_isCut 30 = .ok (.ifCond .eq 7, 3) := by decide +kernel
theorem dX6_isCut_33 : decode cX6_isCut 33 = .ok (.iconst 1, 1) := by decide +kernel
theorem dX6_isCut_34 : decode cX6_isCut 34 = .ok (.goto 4, 3) := by decide +kernel
theorem dX6_isCut_37 : decode cX6_isCut 37 = .ok (.iconst 0, 1) := by decide +kernel
theorem dX6_isCut_38 : decode cX6_isCut 38 = .ok (.ireturn, 1) := by decide +kernel
theorem dX6_saws_0 : decode cX6_saws 0 = .ok (.aload_n 0, 1) := by decide +kernel
theorem dX6_saws_1 : decode cX6_saws 1 = .ok (.iload_n 1, 1) := by decide +kernel
theorem dX6_saws_2 : decode cX6_saws 2 = .ok (.iload_n 2, 1) := by decide +kernel
theorem dX6_saws_3 : decode cX6_saws 3 = .ok (.invokevirtual 79, 3) := by decide +kernel
theorem dX6_saws_6 : decode cX6_saws 6 = .ok (.ifCond .eq 12, 3) := by decide +kernel
theorem dX6_saws_9 : decode cX6_saws 9 = .ok (.aload_n 0, 1) := by decide +kernel
theorem dX6_saws_10 : decode cX6_saws 10 = .ok (.iload_n 1, 1) := by decide +kernel
theorem dX6_saws_11 : decode cX6_saws 11 = .ok (.iload_n 2, 1) := by decide +kernel
theorem dX6_saws_12 : decode cX6_saws 12 = .ok (.invokevirtual 90, 3) := by decide +kernel
theorem dX6_saws_15 : decode cX6_saws 15 = .ok (.ifCond .eq 5, 3) := by decide +kernel
