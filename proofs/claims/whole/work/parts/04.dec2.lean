theorem dX6_saws_18 : decode cX6_saws 18 = .ok (.iconst 0, 1) := by decide +kernel
theorem dX6_saws_19 : decode cX6_saws 19 = .ok (.ireturn, 1) := by decide +kernel
theorem dX6_saws_20 : decode cX6_saws 20 = .ok (.aload_n 0, 1) := by decide +kernel
theorem dX6_saws_21 : decode cX6_saws 21 = .ok (.getfield 7, 3) := by decide +kernel
theorem dX6_saws_24 : decode cX6_saws 24 = .ok (.bipush 57, 2) := by decide +kernel
theorem dX6_saws_26 : decode cX6_saws 26 = .ok (.aload_n 0, 1) := by decide +kernel
theorem dX6_saws_27 : decode cX6_saws 27 = .ok (.iload_n 1, 1) := by decide +kernel
theorem dX6_saws_28 : decode cX6_saws 28 = .ok (.iload_n 2, 1) := by decide +kernel
theorem dX6_saws_29 : decode cX6_saws 29 = .ok (.invokevirtual 83, 3) := by decide +kernel
theorem dX6_saws_32 : decode cX6_saws 32 = .ok (.iadd, 1) := by decide +kernel
theorem dX6_saws_33 : decode cX6_saws 33 = .ok (.dup2, 1) := by decide +kernel
theorem dX6_saws_34 : decode cX6_saws 34 = .ok (.iaload, 1) := by decide +kernel
theorem dX6_saws_35 : decode cX6_saws 35 = .ok (.aload_n 0, 1) := by decide +kernel
theorem dX6_saws_36 : decode cX6_saws 36 = .ok (.iload_n 1, 1) := by decide +kernel
theorem dX6_saws_37 : decode cX6_saws 37 = .ok (.iload_n 2, 1) := by decide +kernel
theorem dX6_saws_38 : decode cX6_saws 38 = .ok (.invokevirtual 87, 3) := by decide +kernel
theorem dX6_saws_41 : decode cX6_saws 41 = .ok (.ior, 1) := by decide +kernel
theorem dX6_saws_42 : decode cX6_saws 42 = .ok (.iastore, 1) := by decide +kernel
theorem dX6_saws_43 : decode cX6_saws 43 = .ok (.iconst 1, 1) := by decide +kernel
theorem dX6_saws_44 : decode cX6_saws 44 = .ok (.ireturn, 1) := by decide +kernel
theorem dX6_saw_0 : decode cX6_saw 0 = .ok (.aload_n 0, 1) := by decide +kernel
theorem dX6_saw_1 : decode cX6_saw 1 = .ok (.iload_n 1, 1) := by decide +kernel
theorem dX6_saw_2 : decode cX6_saw 2 = .ok (.invokevirtual 69, 3) := by decide +kernel
theorem dX6_saw_5 : decode cX6_saw 5 = .ok (.ifCond .ne 9, 3) := by decide +kernel
theorem dX6_saw_8 : decode cX6_saw 8 = .ok (.aload_n 0, 1) := by decide +kernel
theorem dX6_saw_9 : decode cX6_saw 9 = .ok (.iconst 1, 1) := by decide +kernel
theorem dX6_saw_10 : decode cX6_saw 10 = .ok (.invokevirtual 59, 3) := by decide +kernel
theorem dX6_saw_13 : decode cX6_saw 13 = .ok (.ireturn, 1) := by decide +kernel
theorem dX6_saw_14 : decode cX6_saw 14 = .ok (.iload_n 2, 1) := by decide +kernel
theorem dX6_saw_15 : decode cX6_saw 15 = .ok (.i2l, 1) := by decide +kernel
theorem dX6_saw_16 : decode cX6_saw 16 = .ok (.lconst 0, 1) := by decide +kernel
theorem dX6_saw_17 : decode cX6_saw 17 = .ok (.ldc2_w 93, 3) := by decide +kernel
theorem dX6_saw_20 : decode cX6_saw 20 = .ok (.invokestatic 49, 3) := by decide +kernel
theorem dX6_saw_23 : decode cX6_saw 23 = .ok (.ifCond .ne 9, 3) := by decide +kernel
theorem dX6_saw_26 : decode cX6_saw 26 = .ok (.aload_n 0, 1) := by decide +kernel
theorem dX6_saw_27 : decode cX6_saw 27 = .ok (.iconst 2, 1) := by decide +kernel
theorem dX6_saw_28 : decode cX6_saw 28 = .ok (.invokevirtual 59, 3) := by decide +kernel
theorem dX6_saw_31 : decode cX6_saw 31 = .ok (.ireturn, 1) := by decide +kernel
theorem dX6_saw_32 : decode cX6_saw 32 = .ok (.aload_n 0, 1) := by decide +kernel
theorem dX6_saw_33 : decode cX6_saw 33 = .ok (.iload_n 1, 1) := by decide +kernel
theorem dX6_saw_34 : decode cX6_saw 34 = .ok (.iload_n 2, 1) := by decide +kernel
theorem dX6_saw_35 : decode cX6_saw 35 = .ok (.invokevirtual 79, 3) := by decide +kernel
theorem dX6_saw_38 : decode cX6_saw 38 = .ok (.ifCond .ne 9, 3) := by decide +kernel
theorem dX6_saw_41 : decode cX6_saw 41 = .ok (.aload_n 0, 1) := by decide +kernel
theorem dX6_saw_42 : decode cX6_saw 42 = .ok (.iconst 3, 1) := by decide +kernel
theorem dX6_saw_43 : decode cX6_saw 43 = .ok (.invokevirtual 59, 3) := by decide +kernel
theorem dX6_saw_46 : decode cX6_saw 46 = .ok (.ireturn, 1) := by decide +kernel
theorem dX6_saw_47 : decode cX6_saw 47 = .ok (.aload_n 0, 1) := by decide +kernel
theorem dX6_saw_48 : decode cX6_saw 48 = .ok (.invokevirtual 63, 3) := by decide +kernel
theorem dX6_saw_51 : decode cX6_saw 51 = .ok (.aload_n 0, 1) := by decide +kernel
theorem dX6_saw_52 : decode cX6_saw 52 = .ok (.aload_n 0, 1) := by decide +kernel
theorem dX6_saw_53 : decode cX6_saw 53 = .ok (.iload_n 1, 1) := by decide +kernel
theorem dX6_saw_54 : decode cX6_saw 54 = .ok (.iload_n 2, 1) := by decide +kernel
theorem dX6_saw_55 : decode cX6_saw 55 = .ok (.invokevirtual 95, 3) := by decide +kernel
theorem dX6_saw_58 : decode cX6_saw 58 = .ok (.invokevirtual 66, 3) := by decide +kernel
theorem dX6_saw_61 : decode cX6_saw 61 = .ok (.ireturn, 1) := by decide +kernel
theorem dX6_isRectangle_0 : decode cX6_isRectangle 0 = .ok (.iload_n 2, 1) := by decide +kernel
theorem dX6_isRectangle_1 : decode cX6_isRectangle 1 = .ok (.i2l, 1) := by decide +kernel
theorem dX6_isRectangle_2 : decode cX6_isRectangle 2 = .ok (.lconst 1, 1) := by decide +kernel
theorem dX6_isRectangle_3 : decode cX6_isRectangle 3 = .ok (.ldc2_w 55, 3) := by decide +kernel
theorem dX6_isRectangle_6 : decode cX6_isRectangle 6 = .ok (.invokestatic 49, 3) := by decide +kernel
theorem dX6_isRectangle_9 : decode cX6_isRectangle 9 = .ok (.ifCond .eq 51, 3) := by decide +kernel
theorem dX6_isRectangle_12 : decode cX6_isRectangle 12 = .ok (.iload_n 3, 1) := by decide +kernel
theorem dX6_isRectangle_13 : decode cX6_isRectangle 13 = .ok (.i2l, 1) := by decide +kernel
theorem dX6_isRectangle_14 : decode cX6_isRectangle 14 = .ok (.lconst 1, 1) := by decide +kernel
theorem dX6_isRectangle_15 : decode cX6_isRectangle 15 = .ok (.ldc2_w 55, 3) := by decide +kernel
theorem dX6_isRectangle_18 : decode cX6_isRectangle 18 = .ok (.invokestatic 49, 3) := by decide +kernel
theorem dX6_isRectangle_21 : decode cX6_isRectangle 21 = .ok (.ifCond .eq 39, 3) := by decide +kernel
theorem dX6_isRectangle_24 : decode cX6_isRectangle 24 = .ok (.aload_n 0, 1) := by decide +kernel
theorem dX6_isRectangle_25 : decode cX6_isRectangle 25 = .ok (.iload_n 1, 1) := by decide +kernel
theorem dX6_isRectangle_26 : decode cX6_isRectangle 26 = .ok (.invokevirtual 73, 3) := by decide +kernel
theorem dX6_isRectangle_29 : decode cX6_isRectangle 29 = .ok (.iload_n 2, 1) := by decide +kernel
theorem dX6_isRectangle_30 : decode cX6_isRectangle 30 = .ok (.iadd, 1) := by decide +kernel
theorem dX6_isRectangle_31 : decode cX6_isRectangle 31 = .ok (.aload_n 0, 1) := by decide +kernel
theorem dX6_isRectangle_32 : decode cX6_isRectangle 32 = .ok (.getfield 7, 3) := by decide +kernel
theorem dX6_isRectangle_35 : decode cX6_isRectangle 35 = .ok (.iconst 0, 1) := by decide +kernel
theorem dX6_isRectangle_36 : decode cX6_isRectangle 36 = .ok (.iaload, 1) := by decide +kernel
theorem dX6_isRectangle_37 : decode cX6_isRectangle 37 = .ok (.if_icmp .gt 23, 3) := by decide +kernel
theorem dX6_isRectangle_40 : decode cX6_isRectangle 40 = .ok (.aload_n 0, 1) := by decide +kernel
theorem dX6_isRectangle_41 : decode cX6_isRectangle 41 = .ok (.iload_n 1, 1) := by decide +kernel
theorem dX6_isRectangle_42 : decode cX6_isRectangle 42 = .ok (.invokevirtual 76, 3) := by decide +kernel
theorem dX6_isRectangle_45 : decode cX6_isRectangle 45 = .ok (.iload_n 3, 1) := by decide +kernel
theorem dX6_isRectangle_46 : decode cX6_isRectangle 46 = .ok (.iadd, 1) := by decide +kernel
theorem dX6_isRectangle_47 : decode cX6_isRectangle 47 = .ok (.aload_n 0, 1) := by decide +kernel
theorem dX6_isRectangle_48 : decode cX6_isRectangle 48 = .ok (.getfield 7, 3) := by decide +kernel
theorem dX6_isRectangle_51 : decode cX6_isRectangle 51 = .ok (.iconst 1, 1) := by decide +kernel
theorem dX6_isRectangle_52 : decode cX6_isRectangle 52 = .ok (.iaload, 1) := by decide +kernel
theorem dX6_isRectangle_53 : decode cX6_isRectangle 53 = .ok (.if_icmp .gt 7, 3) := by decide +kernel
theorem dX6_isRectangle_56 : decode cX6_isRectangle 56 = .ok (.iconst 1, 1) := by decide +kernel
theorem dX6_isRectangle_57 : decode cX6_isRectangle 57 = .ok (.goto 4, 3) := by decide +kernel
theorem dX6_isRectangle_60 : decode cX6_isRectangle 60 = .ok (.iconst 0, 1) := by decide +kernel
theorem dX6_isRectangle_61 : decode cX6_isRectangle 61 = .ok (.ireturn, 1) := by decide +kernel
theorem dX6_sawsAround_0 : decode cX6_sawsAround 0 = .ok (.iconst 0, 1) := by decide +kernel
theorem dX6_sawsAround_1 : decode cX6_sawsAround 1 = .ok (.istore 4, 2) := by decide +kernel
theorem dX6_sawsAround_3 : decode cX6_sawsAround 3 = .ok (.iconst 0, 1) := by decide +kernel
theorem dX6_sawsAround_4 : decode cX6_sawsAround 4 = .ok (.istore 5, 2) := by decide +kernel
theorem dX6_sawsAround_6 : decode cX6_sawsAround 6 = .ok (.iload 5, 2) := by decide +kernel
theorem dX6_sawsAround_8 : decode cX6_sawsAround 8 = .ok (.iload_n 2, 1) := by decide +kernel
theorem dX6_sawsAround_9 : decode cX6_sawsAround 9 = .ok (.if_icmp .ge 48, 3) := by decide +kernel
theorem dX6_sawsAround_12 : decode cX6_sawsAround 12 = .ok (.iload 4, 2) := by decide +kernel
theorem dX6_sawsAround_14 : decode cX6_sawsAround 14 = .ok (.aload_n 0, 1) := by decide +kernel
theorem dX6_sawsAround_15 : decode cX6_sawsAround 15 = .ok (.iload_n 1, 1) := by decide +kernel
theorem dX6_sawsAround_16 : decode cX6_sawsAround 16 = .ok (.iload 5, 2) := by decide +kernel
theorem dX6_sawsAround_18 : decode cX6_sawsAround 18 = .ok (.iadd, 1) := by decide +kernel
theorem dX6_sawsAround_19 : decode cX6_sawsAround 19 = .ok (.iconst 2, 1) := by decide +kernel
theorem dX6_sawsAround_20 : decode cX6_sawsAround 20 = .ok (.invokevirtual 95, 3) := by decide +kernel
theorem dX6_sawsAround_23 : decode cX6_sawsAround 23 = .ok (.iadd, 1) := by decide +kernel
theorem dX6_sawsAround_24 : decode cX6_sawsAround 24 = .ok (.istore 4, 2) := by decide +kernel
theorem dX6_sawsAround_26 : decode cX6_sawsAround 26 = .ok (.iload 4, 2) := by decide +kernel
theorem dX6_sawsAround_28 : decode cX6_sawsAround 28 = .ok (.aload_n 0, 1) := by decide +kernel
theorem dX6_sawsAround_29 : decode cX6_sawsAround 29 = .ok (.iload_n 1, 1) := by decide +kernel
theorem dX6_sawsAround_30 : decode cX6_sawsAround 30 = .ok (.iload 5, 2) := by decide +kernel
theorem dX6_sawsAround_32 : decode cX6_sawsAround 32 = .ok (.iadd, 1) := by decide +kernel
theorem dX6_sawsAround_33 : decode cX6_sawsAround 33 = .ok (.iload_n 3, 1) := by decide +kernel
theorem dX6_sawsAround_34 : decode cX6_sawsAround 34 = .ok (.iconst 1, 1) := by decide +kernel
theorem dX6_sawsAround_35 : decode cX6_sawsAround 35 = .ok (.isub, 1) := by decide +kernel
theorem dX6_sawsAround_36 : decode cX6_sawsAround 36 = .ok (.aload_n 0, 1) := by decide +kernel
theorem dX6_sawsAround_37 : decode cX6_sawsAround 37 = .ok (.getfield 7, 3) := by decide +kernel
theorem dX6_sawsAround_40 : decode cX6_sawsAround 40 = .ok (.iconst 0, 1) := by decide +kernel
theorem dX6_sawsAround_41 : decode cX6_sawsAround 41 = .ok (.iaload, 1) := by decide +kernel
theorem dX6_sawsAround_42 : decode cX6_sawsAround 42 = .ok (.imul, 1) := by decide +kernel
theorem dX6_sawsAround_43 : decode cX6_sawsAround 43 = .ok (.iadd, 1) := by decide +kernel
theorem dX6_sawsAround_44 : decode cX6_sawsAround 44 = .ok (.iconst 1, 1) := by decide +kernel
theorem dX6_sawsAround_45 : decode cX6_sawsAround 45 = .ok (.invokevirtual 95, 3) := by decide +kernel
theorem dX6_sawsAround_48 : decode cX6_sawsAround 48 = .ok (.iadd, 1) := by decide +kernel
theorem dX6_sawsAround_49 : decode cX6_sawsAround 49 = .ok (.istore 4, 2) := by decide +kernel
theorem dX6_sawsAround_51 : decode cX6_sawsAround 51 = .ok (.iinc 5 1, 3) := by decide +kernel
theorem dX6_sawsAround_54 : decode cX6_sawsAround 54 = .ok (.goto (-48), 3) := by decide +kernel
theorem dX6_sawsAround_57 : decode cX6_sawsAround 57 = .ok (.iconst 0, 1) := by decide +kernel
theorem dX6_sawsAround_58 : decode cX6_sawsAround 58 = .ok (.istore 5, 2) := by decide +kernel
theorem dX6_sawsAround_60 : decode cX6_sawsAround 60 = .ok (.iload 5, 2) := by decide +kernel
theorem dX6_sawsAround_62 : decode cX6_sawsAround 62 = .ok (.iload_n 3, 1) := by decide +kernel
theorem dX6_sawsAround_63 : decode cX6_sawsAround 63 = .ok (.if_icmp .ge 55, 3) := by decide +kernel
theorem dX6_sawsAround_66 : decode cX6_sawsAround 66 = .ok (.iload 4, 2) := by decide +kernel
theorem dX6_sawsAround_68 : decode cX6_sawsAround 68 = .ok (.aload_n 0, 1) := by decide +kernel
theorem dX6_sawsAround_69 : decode cX6_sawsAround 69 = .ok (.iload_n 1, 1) := by decide +kernel
theorem dX6_sawsAround_70 : decode cX6_sawsAround 70 = .ok (.iload 5, 2) := by decide +kernel
theorem dX6_sawsAround_72 : decode cX6_sawsAround 72 = .ok (.aload_n 0, 1) := by decide +kernel
theorem dX6_sawsAround_73 : decode cX6_sawsAround 73 = .ok (.getfield 7, 3) := by decide +kernel
theorem dX6_sawsAround_76 : decode cX6_sawsAround 76 = .ok (.iconst 0, 1) := by decide +kernel
theorem dX6_sawsAround_77 : decode cX6_sawsAround 77 = .ok (.iaload, 1) := by decide +kernel
theorem dX6_sawsAround_78 : decode cX6_sawsAround 78 = .ok (.imul, 1) := by decide +kernel
theorem dX6_sawsAround_79 : decode cX6_sawsAround 79 = .ok (.iadd, 1) := by decide +kernel
theorem dX6_sawsAround_80 : decode cX6_sawsAround 80 = .ok (.iconst 3, 1) := by decide +kernel
theorem dX6_sawsAround_81 : decode cX6_sawsAround 81 = .ok (.invokevirtual 95, 3) := by decide +kernel
theorem dX6_sawsAround_84 : decode cX6_sawsAround 84 = .ok (.iadd, 1) := by decide +kernel
theorem dX6_sawsAround_85 : decode cX6_sawsAround 85 = .ok (.istore 4, 2) := by decide +kernel
theorem dX6_sawsAround_87 : decode cX6_sawsAround 87 = .ok (.iload 4, 2) := by decide +kernel
theorem dX6_sawsAround_89 : decode cX6_sawsAround 89 = .ok (.aload_n 0, 1) := by decide +kernel
theorem dX6_sawsAround_90 : decode cX6_sawsAround 90 = .ok (.iload_n 1, 1) := by decide +kernel
theorem dX6_sawsAround_91 : decode cX6_sawsAround 91 = .ok (.iload 5, 2) := by decide +kernel
theorem dX6_sawsAround_93 : decode cX6_sawsAround 93 = .ok (.aload_n 0, 1) := by decide +kernel
theorem dX6_sawsAround_94 : decode cX6_sawsAround 94 = .ok (.getfield 7, 3) := by decide +kernel
theorem dX6_sawsAround_97 : decode cX6_sawsAround 97 = .ok (.iconst 0, 1) := by decide +kernel
theorem dX6_sawsAround_98 : decode cX6_sawsAround 98 = .ok (.iaload, 1) := by decide +kernel
theorem dX6_sawsAround_99 : decode cX6_sawsAround 99 = .ok (.imul, 1) := by decide +kernel
theorem dX6_sawsAround_100 : decode cX6_sawsAround 100 = .ok (.iadd, 1) := by decide +kernel
theorem dX6_sawsAround_101 : decode cX6_sawsAround 101 = .ok (.iload_n 2, 1) := by decide +kernel
theorem dX6_sawsAround_102 : decode cX6_sawsAround 102 = .ok (.iadd, 1) := by decide +kernel
theorem dX6_sawsAround_103 : decode cX6_sawsAround 103 = .ok (.iconst 1, 1) := by decide +kernel
theorem dX6_sawsAround_104 : decode cX6_sawsAround 104 = .ok (.isub, 1) := by decide +kernel
theorem dX6_sawsAround_105 : decode cX6_sawsAround 105 = .ok (.iconst 0, 1) := by decide +kernel
theorem dX6_sawsAround_106 : decode cX6_sawsAround 106 = .ok (.invokevirtual 95, 3) := by decide +kernel
theorem dX6_sawsAround_109 : decode cX6_sawsAround 109 = .ok (.iadd, 1) := by decide +kernel
theorem dX6_sawsAround_110 : decode cX6_sawsAround 110 = .ok (.istore 4, 2) := by decide +kernel
theorem dX6_sawsAround_112 : decode cX6_sawsAround 112 = .ok (.iinc 5 1, 3) := by decide +kernel
theorem dX6_sawsAround_115 : decode cX6_sawsAround 115 = .ok (.goto (-55), 3) := by decide +kernel
theorem dX6_sawsAround_118 : decode cX6_sawsAround 118 = .ok (.iload 4, 2) := by decide +kernel
theorem dX6_sawsAround_120 : decode cX6_sawsAround 120 = .ok (.ireturn, 1) := by decide +kernel
theorem dX6_sawAround_0 : decode cX6_sawAround 0 = .ok (.aload_n 0, 1) := by decide +kernel
theorem dX6_sawAround_1 : decode cX6_sawAround 1 = .ok (.iload_n 1, 1) := by decide +kernel
theorem dX6_sawAround_2 : decode cX6_sawAround 2 = .ok (.invokevirtual 69, 3) := by decide +kernel
theorem dX6_sawAround_5 : decode cX6_sawAround 5 = .ok (.ifCond .ne 9, 3) := by decide +kernel
theorem dX6_sawAround_8 : decode cX6_sawAround 8 = .ok (.aload_n 0, 1) := by decide +kernel
theorem dX6_sawAround_9 : decode cX6_sawAround 9 = .ok (.iconst 1, 1) := by decide +kernel
theorem dX6_sawAround_10 : decode cX6_sawAround 10 = .ok (.invokevirtual 59, 3) := by decide +kernel
theorem dX6_sawAround_13 : decode cX6_sawAround 13 = .ok (.ireturn, 1) := by decide +kernel
theorem dX6_sawAround_14 : decode cX6_sawAround 14 = .ok (.aload_n 0, 1) := by decide +kernel
theorem dX6_sawAround_15 : decode cX6_sawAround 15 = .ok (.iload_n 1, 1) := by decide +kernel
theorem dX6_sawAround_16 : decode cX6_sawAround 16 = .ok (.iload_n 2, 1) := by decide +kernel
theorem dX6_sawAround_17 : decode cX6_sawAround 17 = .ok (.iload_n 3, 1) := by decide +kernel
theorem dX6_sawAround_18 : decode cX6_sawAround 18 = .ok (.invokevirtual 98, 3) := by decide +kernel
theorem dX6_sawAround_21 : decode cX6_sawAround 21 = .ok (.ifCond .ne 9, 3) := by decide +kernel
theorem dX6_sawAround_24 : decode cX6_sawAround 24 = .ok (.aload_n 0, 1) := by decide +kernel
theorem dX6_sawAround_25 : decode cX6_sawAround 25 = .ok (.iconst 2, 1) := by decide +kernel
theorem dX6_sawAround_26 : decode cX6_sawAround 26 = .ok (.invokevirtual 59, 3) := by decide +kernel
theorem dX6_sawAround_29 : decode cX6_sawAround 29 = .ok (.ireturn, 1) := by decide +kernel
theorem dX6_sawAround_30 : decode cX6_sawAround 30 = .ok (.aload_n 0, 1) := by decide +kernel
theorem dX6_sawAround_31 : decode cX6_sawAround 31 = .ok (.invokevirtual 63, 3) := by decide +kernel
theorem dX6_sawAround_34 : decode cX6_sawAround 34 = .ok (.aload_n 0, 1) := by decide +kernel
theorem dX6_sawAround_35 : decode cX6_sawAround 35 = .ok (.aload_n 0, 1) := by decide +kernel
theorem dX6_sawAround_36 : decode cX6_sawAround 36 = .ok (.iload_n 1, 1) := by decide +kernel
theorem dX6_sawAround_37 : decode cX6_sawAround 37 = .ok (.iload_n 2, 1) := by decide +kernel
theorem dX6_sawAround_38 : decode cX6_sawAround 38 = .ok (.iload_n 3, 1) := by decide +kernel
theorem dX6_sawAround_39 : decode cX6_sawAround 39 = .ok (.invokevirtual 102, 3) := by decide +kernel
theorem dX6_sawAround_42 : decode cX6_sawAround 42 = .ok (.invokevirtual 66, 3) := by decide +kernel
theorem dX6_sawAround_45 : decode cX6_sawAround 45 = .ok (.ireturn, 1) := by decide +kernel
theorem dX6_cutsAround_0 : decode cX6_cutsAround 0 = .ok (.aload_n 0, 1) := by decide +kernel
theorem dX6_cutsAround_1 : decode cX6_cutsAround 1 = .ok (.iload_n 1, 1) := by decide +kernel
theorem dX6_cutsAround_2 : decode cX6_cutsAround 2 = .ok (.invokevirtual 69, 3) := by decide +kernel
theorem dX6_cutsAround_5 : decode cX6_cutsAround 5 = .ok (.ifCond .ne 9, 3) := by decide +kernel
theorem dX6_cutsAround_8 : decode cX6_cutsAround 8 = .ok (.aload_n 0, 1) := by decide +kernel
theorem dX6_cutsAround_9 : decode cX6_cutsAround 9 = .ok (.iconst 1, 1) := by decide +kernel
theorem dX6_cutsAround_10 : decode cX6_cutsAround 10 = .ok (.invokevirtual 59, 3) := by decide +kernel
theorem dX6_cutsAround_13 : decode cX6_cutsAround 13 = .ok (.ireturn, 1) := by decide +kernel
theorem dX6_cutsAround_14 : decode cX6_cutsAround 14 = .ok (.aload_n 0, 1) := by decide +kernel
theorem dX6_cutsAround_15 : decode cX6_cutsAround 15 = .ok (.iload_n 1, 1) := by decide +kernel
theorem dX6_cutsAround_16 : decode cX6_cutsAround 16 = .ok (.iload_n 2, 1) := by decide +kernel
theorem dX6_cutsAround_17 : decode cX6_cutsAround 17 = .ok (.iload_n 3, 1) := by decide +kernel
theorem dX6_cutsAround_18 : decode cX6_cutsAround 18 = .ok (.invokevirtual 98, 3) := by decide +kernel
theorem dX6_cutsAround_21 : decode cX6_cutsAround 21 = .ok (.ifCond .ne 9, 3) := by decide +kernel
theorem dX6_cutsAround_24 : decode cX6_cutsAround 24 = .ok (.aload_n 0, 1) := by decide +kernel
theorem dX6_cutsAround_25 : decode cX6_cutsAround 25 = .ok (.iconst 2, 1) := by decide +kernel
theorem dX6_cutsAround_26 : decode cX6_cutsAround 26 = .ok (.invokevirtual 59, 3) := by decide +kernel
theorem dX6_cutsAround_29 : decode cX6_cutsAround 29 = .ok (.ireturn, 1) := by decide +kernel
theorem dX6_cutsAround_30 : decode cX6_cutsAround 30 = .ok (.aload_n 0, 1) := by decide +kernel
theorem dX6_cutsAround_31 : decode cX6_cutsAround 31 = .ok (.invokevirtual 106, 3) := by decide +kernel
theorem dX6_cutsAround_34 : decode cX6_cutsAround 34 = .ok (.aload_n 0, 1) := by decide +kernel
theorem dX6_cutsAround_35 : decode cX6_cutsAround 35 = .ok (.iload_n 1, 1) := by decide +kernel
theorem dX6_cutsAround_36 : decode cX6_cutsAround 36 = .ok (.iload_n 2, 1) := by decide +kernel
theorem dX6_cutsAround_37 : decode cX6_cutsAround 37 = .ok (.iload_n 3, 1) := by decide +kernel
theorem dX6_cutsAround_38 : decode cX6_cutsAround 38 = .ok (.invokevirtual 102, 3) := by decide +kernel
theorem dX6_cutsAround_41 : decode cX6_cutsAround 41 = .ok (.istore 4, 2) := by decide +kernel
theorem dX6_cutsAround_43 : decode cX6_cutsAround 43 = .ok (.aload_n 0, 1) := by decide +kernel
theorem dX6_cutsAround_44 : decode cX6_cutsAround 44 = .ok (.invokevirtual 109, 3) := by decide +kernel
theorem dX6_cutsAround_47 : decode cX6_cutsAround 47 = .ok (.aload_n 0, 1) := by decide +kernel
theorem dX6_cutsAround_48 : decode cX6_cutsAround 48 = .ok (.iload 4, 2) := by decide +kernel
theorem dX6_cutsAround_50 : decode cX6_cutsAround 50 = .ok (.invokevirtual 66, 3) := by decide +kernel
theorem dX6_cutsAround_53 : decode cX6_cutsAround 53 = .ok (.ireturn, 1) := by decide +kernel
theorem dX6_hang_0 : decode cX6_hang 0 = .ok (.aload_n 0, 1) := by decide +kernel
theorem dX6_hang_1 : decode cX6_hang 1 = .ok (.iload_n 1, 1) := by decide +kernel
theorem dX6_hang_2 : decode cX6_hang 2 = .ok (.invokevirtual 112, 3) := by decide +kernel
theorem dX6_hang_5 : decode cX6_hang 5 = .ok (.ifCond .eq 24, 3) := by decide +kernel
theorem dX6_hang_8 : decode cX6_hang 8 = .ok (.aload_n 0, 1) := by decide +kernel
theorem dX6_hang_9 : decode cX6_hang 9 = .ok (.iload_n 2, 1) := by decide +kernel
theorem dX6_hang_10 : decode cX6_hang 10 = .ok (.invokevirtual 112, 3) := by decide +kernel
theorem dX6_hang_13 : decode cX6_hang 13 = .ok (.ifCond .eq 16, 3) := by decide +kernel
theorem dX6_hang_16 : decode cX6_hang 16 = .ok (.aload_n 0, 1) := by decide +kernel
theorem dX6_hang_17 : decode cX6_hang 17 = .ok (.iload_n 1, 1) := by decide +kernel
theorem dX6_hang_18 : decode cX6_hang 18 = .ok (.iload_n 3, 1) := by decide +kernel
theorem dX6_hang_19 : decode cX6_hang 19 = .ok (.invokevirtual 90, 3) := by decide +kernel
theorem dX6_hang_22 : decode cX6_hang 22 = .ok (.ifCond .ne 7, 3) := by decide +kernel
theorem dX6_hang_25 : decode cX6_hang 25 = .ok (.iconst 1, 1) := by decide +kernel
theorem dX6_hang_26 : decode cX6_hang 26 = .ok (.goto 4, 3) := by decide +kernel
theorem dX6_hang_29 : decode cX6_hang 29 = .ok (.iconst 0, 1) := by decide +kernel
theorem dX6_hang_30 : decode cX6_hang 30 = .ok (.ireturn, 1) := by decide +kernel
theorem dX6_joins_0 : decode cX6_joins 0 = .ok (.aload_n 0, 1) := by decide +kernel
theorem dX6_joins_1 : decode cX6_joins 1 = .ok (.getfield 19, 3) := by decide +kernel
theorem dX6_joins_4 : decode cX6_joins 4 = .ok (.iload_n 1, 1) := by decide +kernel
theorem dX6_joins_5 : decode cX6_joins 5 = .ok (.iaload, 1) := by decide +kernel
theorem dX6_joins_6 : decode cX6_joins 6 = .ok (.aload_n 0, 1) := by decide +kernel
theorem dX6_joins_7 : decode cX6_joins 7 = .ok (.getfield 19, 3) := by decide +kernel
theorem dX6_joins_10 : decode cX6_joins 10 = .ok (.iload_n 2, 1) := by decide +kernel
theorem dX6_joins_11 : decode cX6_joins 11 = .ok (.iaload, 1) := by decide +kernel
theorem dX6_joins_12 : decode cX6_joins 12 = .ok (.if_icmp .ge 12, 3) := by decide +kernel
theorem dX6_joins_15 : decode cX6_joins 15 = .ok (.aload_n 0, 1) := by decide +kernel
theorem dX6_joins_16 : decode cX6_joins 16 = .ok (.getfield 19, 3) := by decide +kernel
theorem dX6_joins_19 : decode cX6_joins 19 = .ok (.iload_n 1, 1) := by decide +kernel
theorem dX6_joins_20 : decode cX6_joins 20 = .ok (.iaload, 1) := by decide +kernel
theorem dX6_joins_21 : decode cX6_joins 21 = .ok (.goto 9, 3) := by decide +kernel
theorem dX6_joins_24 : decode cX6_joins 24 = .ok (.aload_n 0, 1) := by decide +kernel
theorem dX6_joins_25 : decode cX6_joins 25 = .ok (.getfield 19, 3) := by decide +kernel
theorem dX6_joins_28 : decode cX6_joins 28 = .ok (.iload_n 2, 1) := by decide +kernel
theorem dX6_joins_29 : decode cX6_joins 29 = .ok (.iaload, 1) := by decide +kernel
theorem dX6_joins_30 : decode cX6_joins 30 = .ok (.istore_n 3, 1) := by decide +kernel
theorem dX6_joins_31 : decode cX6_joins 31 = .ok (.aload_n 0, 1) := by decide +kernel
theorem dX6_joins_32 : decode cX6_joins 32 = .ok (.getfield 19, 3) := by decide +kernel
theorem dX6_joins_35 : decode cX6_joins 35 = .ok (.iload_n 1, 1) := by decide +kernel
theorem dX6_joins_36 : decode cX6_joins 36 = .ok (.iaload, 1) := by decide +kernel
theorem dX6_joins_37 : decode cX6_joins 37 = .ok (.aload_n 0, 1) := by decide +kernel
theorem dX6_joins_38 : decode cX6_joins 38 = .ok (.getfield 19, 3) := by decide +kernel
theorem dX6_joins_41 : decode cX6_joins 41 = .ok (.iload_n 2, 1) := by decide +kernel
theorem dX6_joins_42 : decode cX6_joins 42 = .ok (.iaload, 1) := by decide +kernel
theorem dX6_joins_43 : decode cX6_joins 43 = .ok (.if_icmp .eq 7, 3) := by decide +kernel
theorem dX6_joins_46 : decode cX6_joins 46 = .ok (.iconst 1, 1) := by decide +kernel
theorem dX6_joins_47 : decode cX6_joins 47 = .ok (.goto 4, 3) := by decide +kernel
theorem dX6_joins_50 : decode cX6_joins 50 = .ok (.iconst 0, 1) := by decide +kernel
theorem dX6_joins_51 : decode cX6_joins 51 = .ok (.istore 4, 2) := by decide +kernel
theorem dX6_joins_53 : decode cX6_joins 53 = .ok (.aload_n 0, 1) := by decide +kernel
theorem dX6_joins_54 : decode cX6_joins 54 = .ok (.getfield 19, 3) := by decide +kernel
theorem dX6_joins_57 : decode cX6_joins 57 = .ok (.iload_n 1, 1) := by decide +kernel
theorem dX6_joins_58 : decode cX6_joins 58 = .ok (.iload_n 3, 1) := by decide +kernel
theorem dX6_joins_59 : decode cX6_joins 59 = .ok (.iastore, 1) := by decide +kernel
theorem dX6_joins_60 : decode cX6_joins 60 = .ok (.aload_n 0, 1) := by decide +kernel
theorem dX6_joins_61 : decode cX6_joins 61 = .ok (.getfield 19, 3) := by decide +kernel
theorem dX6_joins_64 : decode cX6_joins 64 = .ok (.iload_n 2, 1) := by decide +kernel
theorem dX6_joins_65 : decode cX6_joins 65 = .ok (.iload_n 3, 1) := by decide +kernel
theorem dX6_joins_66 : decode cX6_joins 66 = .ok (.iastore, 1) := by decide +kernel
theorem dX6_joins_67 : decode cX6_joins 67 = .ok (.iload 4, 2) := by decide +kernel
theorem dX6_joins_69 : decode cX6_joins 69 = .ok (.ireturn, 1) := by decide +kernel
theorem dX6_findsBlocks_0 : decode cX6_findsBlocks 0 = .ok (.iconst 0, 1) := by decide +kernel
theorem dX6_findsBlocks_1 : decode cX6_findsBlocks 1 = .ok (.istore_n 1, 1) := by decide +kernel
theorem dX6_findsBlocks_2 : decode cX6_findsBlocks 2 = .ok (.iload_n 1, 1) := by decide +kernel
theorem dX6_findsBlocks_3 : decode cX6_findsBlocks 3 = .ok (.aload_n 0, 1) := by decide +kernel
theorem dX6_findsBlocks_4 : decode cX6_findsBlocks 4 = .ok (.invokevirtual 45, 3) := by decide +kernel
theorem dX6_findsBlocks_7 : decode cX6_findsBlocks 7 = .ok (.if_icmp .ge 28, 3) := by decide +kernel
theorem dX6_findsBlocks_10 : decode cX6_findsBlocks 10 = .ok (.aload_n 0, 1) := by decide +kernel
theorem dX6_findsBlocks_11 : decode cX6_findsBlocks 11 = .ok (.getfield 19, 3) := by decide +kernel
theorem dX6_findsBlocks_14 : decode cX6_findsBlocks 14 = .ok (.iload_n 1, 1) := by decide +kernel
theorem dX6_findsBlocks_15 : decode cX6_findsBlocks 15 = .ok (.aload_n 0, 1) := by decide +kernel
theorem dX6_findsBlocks_16 : decode cX6_findsBlocks 16 = .ok (.iload_n 1, 1) := by decide +kernel
theorem dX6_findsBlocks_17 : decode cX6_findsBlocks 17 = .ok (.invokevirtual 112, 3) := by decide +kernel
theorem dX6_findsBlocks_20 : decode cX6_findsBlocks 20 = .ok (.ifCond .eq 7, 3) := by decide +kernel
theorem dX6_findsBlocks_23 : decode cX6_findsBlocks 23 = .ok (.iload_n 1, 1) := by decide +kernel
theorem dX6_findsBlocks_24 : decode cX6_findsBlocks 24 = .ok (.goto 4, 3) := by decide +kernel
theorem dX6_findsBlocks_27 : decode cX6_findsBlocks 27 = .ok (.iconst (-1), 1) := by decide +kernel
theorem dX6_findsBlocks_28 : decode cX6_findsBlocks 28 = .ok (.iastore, 1) := by decide +kernel
theorem dX6_findsBlocks_29 : decode cX6_findsBlocks 29 = .ok (.iinc 1 1, 3) := by decide +kernel
theorem dX6_findsBlocks_32 : decode cX6_findsBlocks 32 = .ok (.goto (-30), 3) := by decide +kernel
theorem dX6_findsBlocks_35 : decode cX6_findsBlocks 35 = .ok (.iconst 1, 1) := by decide +kernel
theorem dX6_findsBlocks_36 : decode cX6_findsBlocks 36 = .ok (.istore_n 1, 1) := by decide +kernel
theorem dX6_findsBlocks_37 : decode cX6_findsBlocks 37 = .ok (.iload_n 1, 1) := by decide +kernel
theorem dX6_findsBlocks_38 : decode cX6_findsBlocks 38 = .ok (.ifCond .eq 118, 3) := by decide +kernel
theorem dX6_findsBlocks_41 : decode cX6_findsBlocks 41 = .ok (.iconst 0, 1) := by decide +kernel
theorem dX6_findsBlocks_42 : decode cX6_findsBlocks 42 = .ok (.istore_n 1, 1) := by decide +kernel
theorem dX6_findsBlocks_43 : decode cX6_findsBlocks 43 = .ok (.iconst 0, 1) := by decide +kernel
theorem dX6_findsBlocks_44 : decode cX6_findsBlocks 44 = .ok (.istore_n 2, 1) := by decide +kernel
theorem dX6_findsBlocks_45 : decode cX6_findsBlocks 45 = .ok (.iload_n 2, 1) := by decide +kernel
theorem dX6_findsBlocks_46 : decode cX6_findsBlocks 46 = .ok (.aload_n 0, 1) := by decide +kernel
theorem dX6_findsBlocks_47 : decode cX6_findsBlocks 47 = .ok (.invokevirtual 45, 3) := by decide +kernel
theorem dX6_findsBlocks_50 : decode cX6_findsBlocks 50 = .ok (.if_icmp .ge 103, 3) := by decide +kernel
theorem dX6_findsBlocks_53 : decode cX6_findsBlocks 53 = .ok (.aload_n 0, 1) := by decide +kernel
theorem dX6_findsBlocks_54 : decode cX6_findsBlocks 54 = .ok (.iload_n 2, 1) := by decide +kernel
theorem dX6_findsBlocks_55 : decode cX6_findsBlocks 55 = .ok (.iconst 0, 1) := by decide +kernel
theorem dX6_findsBlocks_56 : decode cX6_findsBlocks 56 = .ok (.invokevirtual 79, 3) := by decide +kernel
theorem dX6_findsBlocks_59 : decode cX6_findsBlocks 59 = .ok (.ifCond .eq 36, 3) := by decide +kernel
theorem dX6_findsBlocks_62 : decode cX6_findsBlocks 62 = .ok (.aload_n 0, 1) := by decide +kernel
theorem dX6_findsBlocks_63 : decode cX6_findsBlocks 63 = .ok (.iload_n 2, 1) := by decide +kernel
theorem dX6_findsBlocks_64 : decode cX6_findsBlocks 64 = .ok (.iload_n 2, 1) := by decide +kernel
theorem dX6_findsBlocks_65 : decode cX6_findsBlocks 65 = .ok (.iconst 1, 1) := by decide +kernel
theorem dX6_findsBlocks_66 : decode cX6_findsBlocks 66 = .ok (.iadd, 1) := by decide +kernel
theorem dX6_findsBlocks_67 : decode cX6_findsBlocks 67 = .ok (.iconst 0, 1) := by decide +kernel
theorem dX6_findsBlocks_68 : decode cX6_findsBlocks 68 = .ok (.invokevirtual 115, 3) := by decide +kernel
theorem dX6_findsBlocks_71 : decode cX6_findsBlocks 71 = .ok (.ifCond .eq 24, 3) := by decide +kernel
theorem dX6_findsBlocks_74 : decode cX6_findsBlocks 74 = .ok (.aload_n 0, 1) := by decide +kernel
theorem dX6_findsBlocks_75 : decode cX6_findsBlocks 75 = .ok (.iload_n 2, 1) := by decide +kernel
theorem dX6_findsBlocks_76 : decode cX6_findsBlocks 76 = .ok (.iload_n 2, 1) := by decide +kernel
theorem dX6_findsBlocks_77 : decode cX6_findsBlocks 77 = .ok (.iconst 1, 1) := by decide +kernel
theorem dX6_findsBlocks_78 : decode cX6_findsBlocks 78 = .ok (.iadd, 1) := by decide +kernel
theorem dX6_findsBlocks_79 : decode cX6_findsBlocks 79 = .ok (.invokevirtual 118, 3) := by decide +kernel
theorem dX6_findsBlocks_82 : decode cX6_findsBlocks 82 = .ok (.ifCond .ne 7, 3) := by decide +kernel
theorem dX6_findsBlocks_85 : decode cX6_findsBlocks 85 = .ok (.iload_n 1, 1) := by decide +kernel
theorem dX6_findsBlocks_86 : decode cX6_findsBlocks 86 = .ok (.ifCond .eq 7, 3) := by decide +kernel
theorem dX6_findsBlocks_89 : decode cX6_findsBlocks 89 = .ok (.iconst 1, 1) := by decide +kernel
theorem dX6_findsBlocks_90 : decode cX6_findsBlocks 90 = .ok (.goto 4, 3) := by decide +kernel
theorem dX6_findsBlocks_93 : decode cX6_findsBlocks 93 = .ok (.iconst 0, 1) := by decide +kernel
theorem dX6_findsBlocks_94 : decode cX6_findsBlocks 94 = .ok (.istore_n 1, 1) := by decide +kernel
theorem dX6_findsBlocks_95 : decode cX6_findsBlocks 95 = .ok (.aload_n 0, 1) := by decide +kernel
theorem dX6_findsBlocks_96 : decode cX6_findsBlocks 96 = .ok (.iload_n 2, 1) := by decide +kernel
theorem dX6_findsBlocks_97 : decode cX6_findsBlocks 97 = .ok (.iconst 1, 1) := by decide +kernel
theorem dX6_findsBlocks_98 : decode cX6_findsBlocks 98 = .ok (.invokevirtual 79, 3) := by decide +kernel
theorem dX6_findsBlocks_101 : decode cX6_findsBlocks 101 = .ok (.ifCond .eq 46, 3) := by decide +kernel
theorem dX6_findsBlocks_104 : decode cX6_findsBlocks 104 = .ok (.aload_n 0, 1) := by decide +kernel
theorem dX6_findsBlocks_105 : decode cX6_findsBlocks 105 = .ok (.iload_n 2, 1) := by decide +kernel
theorem dX6_findsBlocks_106 : decode cX6_findsBlocks 106 = .ok (.iload_n 2, 1) := by decide +kernel
theorem dX6_findsBlocks_107 : decode cX6_findsBlocks 107 = .ok (.aload_n 0, 1) := by decide +kernel
theorem dX6_findsBlocks_108 : decode cX6_findsBlocks 108 = .ok (.getfield 7, 3) := by decide +kernel
theorem dX6_findsBlocks_111 : decode cX6_findsBlocks 111 = .ok (.iconst 0, 1) := by decide +kernel
theorem dX6_findsBlocks_112 : decode cX6_findsBlocks 112 = .ok (.iaload, 1) := by decide +kernel
theorem dX6_findsBlocks_113 : decode cX6_findsBlocks 113 = .ok (.iadd, 1) := by decide +kernel
theorem dX6_findsBlocks_114 : decode cX6_findsBlocks 114 = .ok (.iconst 1, 1) := by decide +kernel
theorem dX6_findsBlocks_115 : decode cX6_findsBlocks 115 = .ok (.invokevirtual 115, 3) := by decide +kernel
theorem dX6_findsBlocks_118 : decode cX6_findsBlocks 118 = .ok (.ifCond .eq 29, 3) := by decide +kernel
theorem dX6_findsBlocks_121 : decode cX6_findsBlocks 121 = .ok (.aload_n 0, 1) := by decide +kernel
theorem dX6_findsBlocks_122 : decode cX6_findsBlocks 122 = .ok (.iload_n 2, 1) := by decide +kernel
theorem dX6_findsBlocks_123 : decode cX6_findsBlocks 123 = .ok (.iload_n 2, 1) := by decide +kernel
theorem dX6_findsBlocks_124 : decode cX6_findsBlocks 124 = .ok (.aload_n 0, 1) := by decide +kernel
theorem dX6_findsBlocks_125 : decode cX6_findsBlocks 125 = .ok (.getfield 7, 3) := by decide +kernel
theorem dX6_findsBlocks_128 : decode cX6_findsBlocks 128 = .ok (.iconst 0, 1) := by decide +kernel
theorem dX6_findsBlocks_129 : decode cX6_findsBlocks 129 = .ok (.iaload, 1) := by decide +kernel
theorem dX6_findsBlocks_130 : decode cX6_findsBlocks 130 = .ok (.iadd, 1) := by decide +kernel
theorem dX6_findsBlocks_131 : decode cX6_findsBlocks 131 = .ok (.invokevirtual 118, 3) := by decide +kernel
theorem dX6_findsBlocks_134 : decode cX6_findsBlocks 134 = .ok (.ifCond .ne 7, 3) := by decide +kernel
theorem dX6_findsBlocks_137 : decode cX6_findsBlocks 137 = .ok (.iload_n 1, 1) := by decide +kernel
theorem dX6_findsBlocks_138 : decode cX6_findsBlocks 138 = .ok (.ifCond .eq 7, 3) := by decide +kernel
theorem dX6_findsBlocks_141 : decode cX6_findsBlocks 141 = .ok (.iconst 1, 1) := by decide +kernel
theorem dX6_findsBlocks_142 : decode cX6_findsBlocks 142 = .ok (.goto 4, 3) := by decide +kernel
theorem dX6_findsBlocks_145 : decode cX6_findsBlocks 145 = .ok (.iconst 0, 1) := by decide +kernel
theorem dX6_findsBlocks_146 : decode cX6_findsBlocks 146 = .ok (.istore_n 1, 1) := by decide +kernel
theorem dX6_findsBlocks_147 : decode cX6_findsBlocks 147 = .ok (.iinc 2 1, 3) := by decide +kernel
theorem dX6_findsBlocks_150 : decode cX6_findsBlocks 150 = .ok (.goto (-105), 3) := by decide +kernel
theorem dX6_findsBlocks_153 : decode cX6_findsBlocks 153 = .ok (.goto (-116), 3) := by decide +kernel
theorem dX6_findsBlocks_156 : decode cX6_findsBlocks 156 = .ok (.return_, 1) := by decide +kernel
theorem dX6_isHeld_0 : decode cX6_isHeld 0 = .ok (.iconst 0, 1) := by decide +kernel
theorem dX6_isHeld_1 : decode cX6_isHeld 1 = .ok (.istore_n 2, 1) := by decide +kernel
theorem dX6_isHeld_2 : decode cX6_isHeld 2 = .ok (.iconst 0, 1) := by decide +kernel
theorem dX6_isHeld_3 : decode cX6_isHeld 3 = .ok (.istore_n 3, 1) := by decide +kernel
theorem dX6_isHeld_4 : decode cX6_isHeld 4 = .ok (.iload_n 3, 1) := by decide +kernel
theorem dX6_isHeld_5 : decode cX6_isHeld 5 = .ok (.aload_n 0, 1) := by decide +kernel
theorem dX6_isHeld_6 : decode cX6_isHeld 6 = .ok (.getfield 7, 3) := by decide +kernel
theorem dX6_isHeld_9 : decode cX6_isHeld 9 = .ok (.iconst 0, 1) := by decide +kernel
theorem dX6_isHeld_10 : decode cX6_isHeld 10 = .ok (.iaload, 1) := by decide +kernel
theorem dX6_isHeld_11 : decode cX6_isHeld 11 = .ok (.if_icmp .ge 38, 3) := by decide +kernel
theorem dX6_isHeld_14 : decode cX6_isHeld 14 = .ok (.iload_n 2, 1) := by decide +kernel
theorem dX6_isHeld_15 : decode cX6_isHeld 15 = .ok (.ifCond .ne 22, 3) := by decide +kernel
theorem dX6_isHeld_18 : decode cX6_isHeld 18 = .ok (.aload_n 0, 1) := by decide +kernel
theorem dX6_isHeld_19 : decode cX6_isHeld 19 = .ok (.getfield 19, 3) := by decide +kernel
theorem dX6_isHeld_22 : decode cX6_isHeld 22 = .ok (.iload_n 3, 1) := by decide +kernel
theorem dX6_isHeld_23 : decode cX6_isHeld 23 = .ok (.iaload, 1) := by decide +kernel
theorem dX6_isHeld_24 : decode cX6_isHeld 24 = .ok (.iload_n 1, 1) := by decide +kernel
theorem dX6_isHeld_25 : decode cX6_isHeld 25 = .ok (.if_icmp .ne 16, 3) := by decide +kernel
theorem dX6_isHeld_28 : decode cX6_isHeld 28 = .ok (.aload_n 0, 1) := by decide +kernel
theorem dX6_isHeld_29 : decode cX6_isHeld 29 = .ok (.iload_n 3, 1) := by decide +kernel
theorem dX6_isHeld_30 : decode cX6_isHeld 30 = .ok (.iconst 2, 1) := by decide +kernel
theorem dX6_isHeld_31 : decode cX6_isHeld 31 = .ok (.invokevirtual 90, 3) := by decide +kernel
theorem dX6_isHeld_34 : decode cX6_isHeld 34 = .ok (.ifCond .ne 7, 3) := by decide +kernel
theorem dX6_isHeld_37 : decode cX6_isHeld 37 = .ok (.iconst 1, 1) := by decide +kernel
theorem dX6_isHeld_38 : decode cX6_isHeld 38 = .ok (.goto 4, 3) := by decide +kernel
theorem dX6_isHeld_41 : decode cX6_isHeld 41 = .ok (.iconst 0, 1) := by decide +kernel
theorem dX6_isHeld_42 : decode cX6_isHeld 42 = .ok (.istore_n 2, 1) := by decide +kernel
theorem dX6_isHeld_43 : decode cX6_isHeld 43 = .ok (.iinc 3 1, 3) := by decide +kernel
theorem dX6_isHeld_46 : decode cX6_isHeld 46 = .ok (.goto (-42), 3) := by decide +kernel
theorem dX6_isHeld_49 : decode cX6_isHeld 49 = .ok (.iload_n 2, 1) := by decide +kernel
theorem dX6_isHeld_50 : decode cX6_isHeld 50 = .ok (.ireturn, 1) := by decide +kernel
theorem dX6_sizeOf_0 : decode cX6_sizeOf 0 = .ok (.iconst 0, 1) := by decide +kernel
theorem dX6_sizeOf_1 : decode cX6_sizeOf 1 = .ok (.istore_n 3, 1) := by decide +kernel
theorem dX6_sizeOf_2 : decode cX6_sizeOf 2 = .ok (.iconst 0, 1) := by decide +kernel
theorem dX6_sizeOf_3 : decode cX6_sizeOf 3 = .ok (.istore 4, 2) := by decide +kernel
theorem dX6_sizeOf_5 : decode cX6_sizeOf 5 = .ok (.iload 4, 2) := by decide +kernel
theorem dX6_sizeOf_7 : decode cX6_sizeOf 7 = .ok (.aload_n 0, 1) := by decide +kernel
theorem dX6_sizeOf_8 : decode cX6_sizeOf 8 = .ok (.invokevirtual 45, 3) := by decide +kernel
theorem dX6_sizeOf_11 : decode cX6_sizeOf 11 = .ok (.if_icmp .ge 45, 3) := by decide +kernel
theorem dX6_sizeOf_14 : decode cX6_sizeOf 14 = .ok (.iload_n 3, 1) := by decide +kernel
theorem dX6_sizeOf_15 : decode cX6_sizeOf 15 = .ok (.aload_n 0, 1) := by decide +kernel
theorem dX6_sizeOf_16 : decode cX6_sizeOf 16 = .ok (.getfield 19, 3) := by decide +kernel
theorem dX6_sizeOf_19 : decode cX6_sizeOf 19 = .ok (.iload 4, 2) := by decide +kernel
theorem dX6_sizeOf_21 : decode cX6_sizeOf 21 = .ok (.iaload, 1) := by decide +kernel
theorem dX6_sizeOf_22 : decode cX6_sizeOf 22 = .ok (.iload_n 1, 1) := by decide +kernel
theorem dX6_sizeOf_23 : decode cX6_sizeOf 23 = .ok (.if_icmp .ne 24, 3) := by decide +kernel
theorem dX6_sizeOf_26 : decode cX6_sizeOf 26 = .ok (.iload_n 2, 1) := by decide +kernel
theorem dX6_sizeOf_27 : decode cX6_sizeOf 27 = .ok (.ifCond .eq 16, 3) := by decide +kernel
theorem dX6_sizeOf_30 : decode cX6_sizeOf 30 = .ok (.aload_n 0, 1) := by decide +kernel
theorem dX6_sizeOf_31 : decode cX6_sizeOf 31 = .ok (.getfield 7, 3) := by decide +kernel
theorem dX6_sizeOf_34 : decode cX6_sizeOf 34 = .ok (.bipush 8, 2) := by decide +kernel
theorem dX6_sizeOf_36 : decode cX6_sizeOf 36 = .ok (.iload 4, 2) := by decide +kernel
theorem dX6_sizeOf_38 : decode cX6_sizeOf 38 = .ok (.iadd, 1) := by decide +kernel
theorem dX6_sizeOf_39 : decode cX6_sizeOf 39 = .ok (.iaload, 1) := by decide +kernel
theorem dX6_sizeOf_40 : decode cX6_sizeOf 40 = .ok (.goto 8, 3) := by decide +kernel
theorem dX6_sizeOf_43 : decode cX6_sizeOf 43 = .ok (.iconst 1, 1) := by decide +kernel
theorem dX6_sizeOf_44 : decode cX6_sizeOf 44 = .ok (.goto 4, 3) := by decide +kernel
theorem dX6_sizeOf_47 : decode cX6_sizeOf 47 = .ok (.iconst 0, 1) := by decide +kernel
theorem dX6_sizeOf_48 : decode cX6_sizeOf 48 = .ok (.iadd, 1) := by decide +kernel
theorem dX6_sizeOf_49 : decode cX6_sizeOf 49 = .ok (.istore_n 3, 1) := by decide +kernel
theorem dX6_sizeOf_50 : decode cX6_sizeOf 50 = .ok (.iinc 4 1, 3) := by decide +kernel
theorem dX6_sizeOf_53 : decode cX6_sizeOf 53 = .ok (.goto (-48), 3) := by decide +kernel
theorem dX6_sizeOf_56 : decode cX6_sizeOf 56 = .ok (.iload_n 3, 1) := by decide +kernel
theorem dX6_sizeOf_57 : decode cX6_sizeOf 57 = .ok (.ireturn, 1) := by decide +kernel
theorem dX6_mayLie_0 : decode cX6_mayLie 0 = .ok (.iconst 1, 1) := by decide +kernel
theorem dX6_mayLie_1 : decode cX6_mayLie 1 = .ok (.istore 4, 2) := by decide +kernel
theorem dX6_mayLie_3 : decode cX6_mayLie 3 = .ok (.iconst 0, 1) := by decide +kernel
theorem dX6_mayLie_4 : decode cX6_mayLie 4 = .ok (.istore 5, 2) := by decide +kernel
theorem dX6_mayLie_6 : decode cX6_mayLie 6 = .ok (.iload 5, 2) := by decide +kernel
theorem dX6_mayLie_8 : decode cX6_mayLie 8 = .ok (.aload_n 0, 1) := by decide +kernel
theorem dX6_mayLie_9 : decode cX6_mayLie 9 = .ok (.invokevirtual 45, 3) := by decide +kernel
theorem dX6_mayLie_12 : decode cX6_mayLie 12 = .ok (.if_icmp .ge 127, 3) := by decide +kernel
theorem dX6_mayLie_15 : decode cX6_mayLie 15 = .ok (.iload 4, 2) := by decide +kernel
theorem dX6_mayLie_17 : decode cX6_mayLie 17 = .ok (.ifCond .eq 122, 3) := by decide +kernel
theorem dX6_mayLie_20 : decode cX6_mayLie 20 = .ok (.aload_n 0, 1) := by decide +kernel
theorem dX6_mayLie_21 : decode cX6_mayLie 21 = .ok (.getfield 19, 3) := by decide +kernel
theorem dX6_mayLie_24 : decode cX6_mayLie 24 = .ok (.iload 5, 2) := by decide +kernel
theorem dX6_mayLie_26 : decode cX6_mayLie 26 = .ok (.iaload, 1) := by decide +kernel
theorem dX6_mayLie_27 : decode cX6_mayLie 27 = .ok (.iload_n 1, 1) := by decide +kernel
theorem dX6_mayLie_28 : decode cX6_mayLie 28 = .ok (.if_icmp .ne 105, 3) := by decide +kernel
theorem dX6_mayLie_31 : decode cX6_mayLie 31 = .ok (.aload_n 0, 1) := by decide +kernel
theorem dX6_mayLie_32 : decode cX6_mayLie 32 = .ok (.iload 5, 2) := by decide +kernel
theorem dX6_mayLie_34 : decode cX6_mayLie 34 = .ok (.invokevirtual 76, 3) := by decide +kernel
theorem dX6_mayLie_37 : decode cX6_mayLie 37 = .ok (.iload_n 3, 1) := by decide +kernel
theorem dX6_mayLie_38 : decode cX6_mayLie 38 = .ok (.iadd, 1) := by decide +kernel
theorem dX6_mayLie_39 : decode cX6_mayLie 39 = .ok (.istore 6, 2) := by decide +kernel
theorem dX6_mayLie_41 : decode cX6_mayLie 41 = .ok (.aload_n 0, 1) := by decide +kernel
theorem dX6_mayLie_42 : decode cX6_mayLie 42 = .ok (.iload 5, 2) := by decide +kernel
theorem dX6_mayLie_44 : decode cX6_mayLie 44 = .ok (.invokevirtual 73, 3) := by decide +kernel
theorem dX6_mayLie_47 : decode cX6_mayLie 47 = .ok (.iload_n 2, 1) := by decide +kernel
theorem dX6_mayLie_48 : decode cX6_mayLie 48 = .ok (.iadd, 1) := by decide +kernel
theorem dX6_mayLie_49 : decode cX6_mayLie 49 = .ok (.istore 7, 2) := by decide +kernel
theorem dX6_mayLie_51 : decode cX6_mayLie 51 = .ok (.iload 6, 2) := by decide +kernel
theorem dX6_mayLie_53 : decode cX6_mayLie 53 = .ok (.ifCond .lt 77, 3) := by decide +kernel
theorem dX6_mayLie_56 : decode cX6_mayLie 56 = .ok (.iload 7, 2) := by decide +kernel
theorem dX6_mayLie_58 : decode cX6_mayLie 58 = .ok (.i2l, 1) := by decide +kernel
theorem dX6_mayLie_59 : decode cX6_mayLie 59 = .ok (.lconst 0, 1) := by decide +kernel
theorem dX6_mayLie_60 : decode cX6_mayLie 60 = .ok (.aload_n 0, 1) := by decide +kernel
theorem dX6_mayLie_61 : decode cX6_mayLie 61 = .ok (.getfield 7, 3) := by decide +kernel
theorem dX6_mayLie_64 : decode cX6_mayLie 64 = .ok (.iconst 0, 1) := by decide +kernel
theorem dX6_mayLie_65 : decode cX6_mayLie 65 = .ok (.iaload, 1) := by decide +kernel
theorem dX6_mayLie_66 : decode cX6_mayLie 66 = .ok (.i2l, 1) := by decide +kernel
theorem dX6_mayLie_67 : decode cX6_mayLie 67 = .ok (.lconst 1, 1) := by decide +kernel
theorem dX6_mayLie_68 : decode cX6_mayLie 68 = .ok (.lsub, 1) := by decide +kernel
theorem dX6_mayLie_69 : decode cX6_mayLie 69 = .ok (.invokestatic 49, 3) := by decide +kernel
theorem dX6_mayLie_72 : decode cX6_mayLie 72 = .ok (.ifCond .eq 58, 3) := by decide +kernel
theorem dX6_mayLie_75 : decode cX6_mayLie 75 = .ok (.iload 6, 2) := by decide +kernel
theorem dX6_mayLie_77 : decode cX6_mayLie 77 = .ok (.aload_n 0, 1) := by decide +kernel
theorem dX6_mayLie_78 : decode cX6_mayLie 78 = .ok (.getfield 7, 3) := by decide +kernel
theorem dX6_mayLie_81 : decode cX6_mayLie 81 = .ok (.iconst 1, 1) := by decide +kernel
theorem dX6_mayLie_82 : decode cX6_mayLie 82 = .ok (.iaload, 1) := by decide +kernel
theorem dX6_mayLie_83 : decode cX6_mayLie 83 = .ok (.if_icmp .ge 43, 3) := by decide +kernel
theorem dX6_mayLie_86 : decode cX6_mayLie 86 = .ok (.aload_n 0, 1) := by decide +kernel
theorem dX6_mayLie_87 : decode cX6_mayLie 87 = .ok (.iload 6, 2) := by decide +kernel
theorem dX6_mayLie_89 : decode cX6_mayLie 89 = .ok (.aload_n 0, 1) := by decide +kernel
theorem dX6_mayLie_90 : decode cX6_mayLie 90 = .ok (.getfield 7, 3) := by decide +kernel
theorem dX6_mayLie_93 : decode cX6_mayLie 93 = .ok (.iconst 0, 1) := by decide +kernel
theorem dX6_mayLie_94 : decode cX6_mayLie 94 = .ok (.iaload, 1) := by decide +kernel
theorem dX6_mayLie_95 : decode cX6_mayLie 95 = .ok (.imul, 1) := by decide +kernel
theorem dX6_mayLie_96 : decode cX6_mayLie 96 = .ok (.iload 7, 2) := by decide +kernel
theorem dX6_mayLie_98 : decode cX6_mayLie 98 = .ok (.iadd, 1) := by decide +kernel
theorem dX6_mayLie_99 : decode cX6_mayLie 99 = .ok (.invokevirtual 112, 3) := by decide +kernel
theorem dX6_mayLie_102 : decode cX6_mayLie 102 = .ok (.ifCond .eq 24, 3) := by decide +kernel
theorem dX6_mayLie_105 : decode cX6_mayLie 105 = .ok (.aload_n 0, 1) := by decide +kernel
theorem dX6_mayLie_106 : decode cX6_mayLie 106 = .ok (.getfield 19, 3) := by decide +kernel
theorem dX6_mayLie_109 : decode cX6_mayLie 109 = .ok (.iload 6, 2) := by decide +kernel
theorem dX6_mayLie_111 : decode cX6_mayLie 111 = .ok (.aload_n 0, 1) := by decide +kernel
theorem dX6_mayLie_112 : decode cX6_mayLie 112 = .ok (.getfield 7, 3) := by decide +kernel
theorem dX6_mayLie_115 : decode cX6_mayLie 115 = .ok (.iconst 0, 1) := by decide +kernel
theorem dX6_mayLie_116 : decode cX6_mayLie 116 = .ok (.iaload, 1) := by decide +kernel
theorem dX6_mayLie_117 : decode cX6_mayLie 117 = .ok (.imul, 1) := by decide +kernel
theorem dX6_mayLie_118 : decode cX6_mayLie 118 = .ok (.iload 7, 2) := by decide +kernel
theorem dX6_mayLie_120 : decode cX6_mayLie 120 = .ok (.iadd, 1) := by decide +kernel
theorem dX6_mayLie_121 : decode cX6_mayLie 121 = .ok (.iaload, 1) := by decide +kernel
theorem dX6_mayLie_122 : decode cX6_mayLie 122 = .ok (.iload_n 1, 1) := by decide +kernel
theorem dX6_mayLie_123 : decode cX6_mayLie 123 = .ok (.if_icmp .ne 7, 3) := by decide +kernel
theorem dX6_mayLie_126 : decode cX6_mayLie 126 = .ok (.iconst 1, 1) := by decide +kernel
theorem dX6_mayLie_127 : decode cX6_mayLie 127 = .ok (.goto 4, 3) := by decide +kernel
theorem dX6_mayLie_130 : decode cX6_mayLie 130 = .ok (.iconst 0, 1) := by decide +kernel
theorem dX6_mayLie_131 : decode cX6_mayLie 131 = .ok (.istore 4, 2) := by decide +kernel
theorem dX6_mayLie_133 : decode cX6_mayLie 133 = .ok (.iinc 5 1, 3) := by decide +kernel
theorem dX6_mayLie_136 : decode cX6_mayLie 136 = .ok (.goto (-130), 3) := by decide +kernel
theorem dX6_mayLie_139 : decode cX6_mayLie 139 = .ok (.iload 4, 2) := by decide +kernel
theorem dX6_mayLie_141 : decode cX6_mayLie 141 = .ok (.ireturn, 1) := by decide +kernel
theorem dX6_findsWays_0 : decode cX6_findsWays 0 = .ok (.aload_n 0, 1) := by decide +kernel
theorem dX6_findsWays_1 : decode cX6_findsWays 1 = .ok (.getfield 7, 3) := by decide +kernel
theorem dX6_findsWays_4 : decode cX6_findsWays 4 = .ok (.iconst 1, 1) := by decide +kernel
theorem dX6_findsWays_5 : decode cX6_findsWays 5 = .ok (.iaload, 1) := by decide +kernel
theorem dX6_findsWays_6 : decode cX6_findsWays 6 = .ok (.iload_n 1, 1) := by decide +kernel
theorem dX6_findsWays_7 : decode cX6_findsWays 7 = .ok (.aload_n 0, 1) := by decide +kernel
theorem dX6_findsWays_8 : decode cX6_findsWays 8 = .ok (.getfield 7, 3) := by decide +kernel
theorem dX6_findsWays_11 : decode cX6_findsWays 11 = .ok (.iconst 0, 1) := by decide +kernel
theorem dX6_findsWays_12 : decode cX6_findsWays 12 = .ok (.iaload, 1) := by decide +kernel
theorem dX6_findsWays_13 : decode cX6_findsWays 13 = .ok (.idiv, 1) := by decide +kernel
theorem dX6_findsWays_14 : decode cX6_findsWays 14 = .ok (.isub, 1) := by decide +kernel
theorem dX6_findsWays_15 : decode cX6_findsWays 15 = .ok (.istore_n 2, 1) := by decide +kernel
theorem dX6_findsWays_16 : decode cX6_findsWays 16 = .ok (.iconst 0, 1) := by decide +kernel
theorem dX6_findsWays_17 : decode cX6_findsWays 17 = .ok (.istore_n 3, 1) := by decide +kernel
theorem dX6_findsWays_18 : decode cX6_findsWays 18 = .ok (.iload_n 3, 1) := by decide +kernel
theorem dX6_findsWays_19 : decode cX6_findsWays 19 = .ok (.sipush 225, 3) := by decide +kernel
theorem dX6_findsWays_22 : decode cX6_findsWays 22 = .ok (.if_icmp .ge 67, 3) := by decide +kernel
theorem dX6_findsWays_25 : decode cX6_findsWays 25 = .ok (.iload_n 3, 1) := by decide +kernel
theorem dX6_findsWays_26 : decode cX6_findsWays 26 = .ok (.bipush 15, 2) := by decide +kernel
theorem dX6_findsWays_28 : decode cX6_findsWays 28 = .ok (.idiv, 1) := by decide +kernel
theorem dX6_findsWays_29 : decode cX6_findsWays 29 = .ok (.bipush 7, 2) := by decide +kernel
theorem dX6_findsWays_31 : decode cX6_findsWays 31 = .ok (.isub, 1) := by decide +kernel
theorem dX6_findsWays_32 : decode cX6_findsWays 32 = .ok (.istore 4, 2) := by decide +kernel
theorem dX6_findsWays_34 : decode cX6_findsWays 34 = .ok (.iload_n 3, 1) := by decide +kernel
theorem dX6_findsWays_35 : decode cX6_findsWays 35 = .ok (.bipush 15, 2) := by decide +kernel
theorem dX6_findsWays_37 : decode cX6_findsWays 37 = .ok (.irem, 1) := by decide +kernel
theorem dX6_findsWays_38 : decode cX6_findsWays 38 = .ok (.bipush 7, 2) := by decide +kernel
theorem dX6_findsWays_40 : decode cX6_findsWays 40 = .ok (.isub, 1) := by decide +kernel
theorem dX6_findsWays_41 : decode cX6_findsWays 41 = .ok (.istore 5, 2) := by decide +kernel
theorem dX6_findsWays_43 : decode cX6_findsWays 43 = .ok (.aload_n 0, 1) := by decide +kernel
theorem dX6_findsWays_44 : decode cX6_findsWays 44 = .ok (.getfield 22, 3) := by decide +kernel
theorem dX6_findsWays_47 : decode cX6_findsWays 47 = .ok (.iload_n 3, 1) := by decide +kernel
theorem dX6_findsWays_48 : decode cX6_findsWays 48 = .ok (.iload 4, 2) := by decide +kernel
theorem dX6_findsWays_50 : decode cX6_findsWays 50 = .ok (.iload_n 2, 1) := by decide +kernel
theorem dX6_findsWays_51 : decode cX6_findsWays 51 = .ok (.if_icmp .gt 15, 3) := by decide +kernel
theorem dX6_findsWays_54 : decode cX6_findsWays 54 = .ok (.aload_n 0, 1) := by decide +kernel
theorem dX6_findsWays_55 : decode cX6_findsWays 55 = .ok (.iload_n 1, 1) := by decide +kernel
theorem dX6_findsWays_56 : decode cX6_findsWays 56 = .ok (.iload 5, 2) := by decide +kernel
theorem dX6_findsWays_58 : decode cX6_findsWays 58 = .ok (.iload 4, 2) := by decide +kernel
theorem dX6_findsWays_60 : decode cX6_findsWays 60 = .ok (.invokevirtual 121, 3) := by decide +kernel
theorem dX6_findsWays_63 : decode cX6_findsWays 63 = .ok (.ifCond .ne 8, 3) := by decide +kernel
theorem dX6_findsWays_66 : decode cX6_findsWays 66 = .ok (.bipush (-2), 2) := by decide +kernel
theorem dX6_findsWays_68 : decode cX6_findsWays 68 = .ok (.goto 14, 3) := by decide +kernel
theorem dX6_findsWays_71 : decode cX6_findsWays 71 = .ok (.iload 4, 2) := by decide +kernel
theorem dX6_findsWays_73 : decode cX6_findsWays 73 = .ok (.iload_n 2, 1) := by decide +kernel
theorem dX6_findsWays_74 : decode cX6_findsWays 74 = .ok (.if_icmp .ne 7, 3) := by decide +kernel
theorem dX6_findsWays_77 : decode cX6_findsWays 77 = .ok (.iconst 0, 1) := by decide +kernel
theorem dX6_findsWays_78 : decode cX6_findsWays 78 = .ok (.goto 4, 3) := by decide +kernel
theorem dX6_findsWays_81 : decode cX6_findsWays 81 = .ok (.iconst (-1), 1) := by decide +kernel
theorem dX6_findsWays_82 : decode cX6_findsWays 82 = .ok (.iastore, 1) := by decide +kernel
theorem dX6_findsWays_83 : decode cX6_findsWays 83 = .ok (.iinc 3 1, 3) := by decide +kernel
theorem dX6_findsWays_86 : decode cX6_findsWays 86 = .ok (.goto (-68), 3) := by decide +kernel
theorem dX6_findsWays_89 : decode cX6_findsWays 89 = .ok (.iconst 1, 1) := by decide +kernel
theorem dX6_findsWays_90 : decode cX6_findsWays 90 = .ok (.istore_n 3, 1) := by decide +kernel
theorem dX6_findsWays_91 : decode cX6_findsWays 91 = .ok (.iconst 0, 1) := by decide +kernel
theorem dX6_findsWays_92 : decode cX6_findsWays 92 = .ok (.istore 4, 2) := by decide +kernel
theorem dX6_findsWays_94 : decode cX6_findsWays 94 = .ok (.iload_n 3, 1) := by decide +kernel
theorem dX6_findsWays_95 : decode cX6_findsWays 95 = .ok (.ifCond .eq 63, 3) := by decide +kernel
theorem dX6_findsWays_98 : decode cX6_findsWays 98 = .ok (.iconst 0, 1) := by decide +kernel
theorem dX6_findsWays_99 : decode cX6_findsWays 99 = .ok (.istore_n 3, 1) := by decide +kernel
theorem dX6_findsWays_100 : decode cX6_findsWays 100 = .ok (.iconst 0, 1) := by decide +kernel
theorem dX6_findsWays_101 : decode cX6_findsWays 101 = .ok (.istore 5, 2) := by decide +kernel
theorem dX6_findsWays_103 : decode cX6_findsWays 103 = .ok (.iload 5, 2) := by decide +kernel
theorem dX6_findsWays_105 : decode cX6_findsWays 105 = .ok (.sipush 225, 3) := by decide +kernel
theorem dX6_findsWays_108 : decode cX6_findsWays 108 = .ok (.if_icmp .ge 44, 3) := by decide +kernel
theorem dX6_findsWays_111 : decode cX6_findsWays 111 = .ok (.aload_n 0, 1) := by decide +kernel
theorem dX6_findsWays_112 : decode cX6_findsWays 112 = .ok (.getfield 22, 3) := by decide +kernel
theorem dX6_findsWays_115 : decode cX6_findsWays 115 = .ok (.iload 5, 2) := by decide +kernel
theorem dX6_findsWays_117 : decode cX6_findsWays 117 = .ok (.iaload, 1) := by decide +kernel
theorem dX6_findsWays_118 : decode cX6_findsWays 118 = .ok (.iconst (-1), 1) := by decide +kernel
theorem dX6_findsWays_119 : decode cX6_findsWays 119 = .ok (.if_icmp .ne 27, 3) := by decide +kernel
theorem dX6_findsWays_122 : decode cX6_findsWays 122 = .ok (.aload_n 0, 1) := by decide +kernel
theorem dX6_findsWays_123 : decode cX6_findsWays 123 = .ok (.iload 5, 2) := by decide +kernel
theorem dX6_findsWays_125 : decode cX6_findsWays 125 = .ok (.iload 4, 2) := by decide +kernel
theorem dX6_findsWays_127 : decode cX6_findsWays 127 = .ok (.invokevirtual 124, 3) := by decide +kernel
theorem dX6_findsWays_130 : decode cX6_findsWays 130 = .ok (.ifCond .eq 16, 3) := by decide +kernel
theorem dX6_findsWays_133 : decode cX6_findsWays 133 = .ok (.aload_n 0, 1) := by decide +kernel
theorem dX6_findsWays_134 : decode cX6_findsWays 134 = .ok (.getfield 22, 3) := by decide +kernel
theorem dX6_findsWays_137 : decode cX6_findsWays 137 = .ok (.iload 5, 2) := by decide +kernel
theorem dX6_findsWays_139 : decode cX6_findsWays 139 = .ok (.iload 4, 2) := by decide +kernel
theorem dX6_findsWays_141 : decode cX6_findsWays 141 = .ok (.iconst 1, 1) := by decide +kernel
theorem dX6_findsWays_142 : decode cX6_findsWays 142 = .ok (.iadd, 1) := by decide +kernel
theorem dX6_findsWays_143 : decode cX6_findsWays 143 = .ok (.iastore, 1) := by decide +kernel
theorem dX6_findsWays_144 : decode cX6_findsWays 144 = .ok (.iconst 1, 1) := by decide +kernel
theorem dX6_findsWays_145 : decode cX6_findsWays 145 = .ok (.istore_n 3, 1) := by decide +kernel
theorem dX6_findsWays_146 : decode cX6_findsWays 146 = .ok (.iinc 5 1, 3) := by decide +kernel
theorem dX6_findsWays_149 : decode cX6_findsWays 149 = .ok (.goto (-46), 3) := by decide +kernel
theorem dX6_findsWays_152 : decode cX6_findsWays 152 = .ok (.iinc 4 1, 3) := by decide +kernel
theorem dX6_findsWays_155 : decode cX6_findsWays 155 = .ok (.goto (-61), 3) := by decide +kernel
theorem dX6_findsWays_158 : decode cX6_findsWays 158 = .ok (.return_, 1) := by decide +kernel
theorem dX6_moved_0 : decode cX6_moved 0 = .ok (.iload_n 1, 1) := by decide +kernel
theorem dX6_moved_1 : decode cX6_moved 1 = .ok (.ifCond .ne 9, 3) := by decide +kernel
theorem dX6_moved_4 : decode cX6_moved 4 = .ok (.iload_n 0, 1) := by decide +kernel
theorem dX6_moved_5 : decode cX6_moved 5 = .ok (.iconst 1, 1) := by decide +kernel
theorem dX6_moved_6 : decode cX6_moved 6 = .ok (.isub, 1) := by decide +kernel
theorem dX6_moved_7 : decode cX6_moved 7 = .ok (.goto 30, 3) := by decide +kernel
theorem dX6_moved_10 : decode cX6_moved 10 = .ok (.iload_n 1, 1) := by decide +kernel
theorem dX6_moved_11 : decode cX6_moved 11 = .ok (.iconst 1, 1) := by decide +kernel
theorem dX6_moved_12 : decode cX6_moved 12 = .ok (.if_icmp .ne 9, 3) := by decide +kernel
theorem dX6_moved_15 : decode cX6_moved 15 = .ok (.iload_n 0, 1) := by decide +kernel
theorem dX6_moved_16 : decode cX6_moved 16 = .ok (.iconst 1, 1) := by decide +kernel
theorem dX6_moved_17 : decode cX6_moved 17 = .ok (.iadd, 1) := by decide +kernel
theorem dX6_moved_18 : decode cX6_moved 18 = .ok (.goto 19, 3) := by decide +kernel
theorem dX6_moved_21 : decode cX6_moved 21 = .ok (.iload_n 1, 1) := by decide +kernel
theorem dX6_moved_22 : decode cX6_moved 22 = .ok (.iconst 2, 1) := by decide +kernel
theorem dX6_moved_23 : decode cX6_moved 23 = .ok (.if_icmp .ne 10, 3) := by decide +kernel
theorem dX6_moved_26 : decode cX6_moved 26 = .ok (.iload_n 0, 1) := by decide +kernel
theorem dX6_moved_27 : decode cX6_moved 27 = .ok (.bipush 15, 2) := by decide +kernel
theorem dX6_moved_29 : decode cX6_moved 29 = .ok (.isub, 1) := by decide +kernel
theorem dX6_moved_30 : decode cX6_moved 30 = .ok (.goto 7, 3) := by decide +kernel
theorem dX6_moved_33 : decode cX6_moved 33 = .ok (.iload_n 0, 1) := by decide +kernel
theorem dX6_moved_34 : decode cX6_moved 34 = .ok (.bipush 15, 2) := by decide +kernel
theorem dX6_moved_36 : decode cX6_moved 36 = .ok (.iadd, 1) := by decide +kernel
theorem dX6_moved_37 : decode cX6_moved 37 = .ok (.ireturn, 1) := by decide +kernel
theorem dX6_isBeside_0 : decode cX6_isBeside 0 = .ok (.iconst 0, 1) := by decide +kernel
theorem dX6_isBeside_1 : decode cX6_isBeside 1 = .ok (.istore_n 3, 1) := by decide +kernel
theorem dX6_isBeside_2 : decode cX6_isBeside 2 = .ok (.iconst 0, 1) := by decide +kernel
theorem dX6_isBeside_3 : decode cX6_isBeside 3 = .ok (.istore 4, 2) := by decide +kernel
theorem dX6_isBeside_5 : decode cX6_isBeside 5 = .ok (.iload 4, 2) := by decide +kernel
theorem dX6_isBeside_7 : decode cX6_isBeside 7 = .ok (.iconst 4, 1) := by decide +kernel
theorem dX6_isBeside_8 : decode cX6_isBeside 8 = .ok (.if_icmp .ge 51, 3) := by decide +kernel
theorem dX6_isBeside_11 : decode cX6_isBeside 11 = .ok (.iload_n 1, 1) := by decide +kernel
theorem dX6_isBeside_12 : decode cX6_isBeside 12 = .ok (.iload 4, 2) := by decide +kernel
theorem dX6_isBeside_14 : decode cX6_isBeside 14 = .ok (.invokestatic 127, 3) := by decide +kernel
theorem dX6_isBeside_17 : decode cX6_isBeside 17 = .ok (.istore 5, 2) := by decide +kernel
theorem dX6_isBeside_19 : decode cX6_isBeside 19 = .ok (.iload_n 3, 1) := by decide +kernel
theorem dX6_isBeside_20 : decode cX6_isBeside 20 = .ok (.ifCond .ne 27, 3) := by decide +kernel
theorem dX6_isBeside_23 : decode cX6_isBeside 23 = .ok (.iload 5, 2) := by decide +kernel
theorem dX6_isBeside_25 : decode cX6_isBeside 25 = .ok (.i2l, 1) := by decide +kernel
theorem dX6_isBeside_26 : decode cX6_isBeside 26 = .ok (.lconst 0, 1) := by decide +kernel
theorem dX6_isBeside_27 : decode cX6_isBeside 27 = .ok (.ldc2_w 130, 3) := by decide +kernel
theorem dX6_isBeside_30 : decode cX6_isBeside 30 = .ok (.invokestatic 49, 3) := by decide +kernel
theorem dX6_isBeside_33 : decode cX6_isBeside 33 = .ok (.ifCond .eq 18, 3) := by decide +kernel
theorem dX6_isBeside_36 : decode cX6_isBeside 36 = .ok (.aload_n 0, 1) := by decide +kernel
theorem dX6_isBeside_37 : decode cX6_isBeside 37 = .ok (.getfield 22, 3) := by decide +kernel
theorem dX6_isBeside_40 : decode cX6_isBeside 40 = .ok (.iload 5, 2) := by decide +kernel
theorem dX6_isBeside_42 : decode cX6_isBeside 42 = .ok (.iaload, 1) := by decide +kernel
theorem dX6_isBeside_43 : decode cX6_isBeside 43 = .ok (.iload_n 2, 1) := by decide +kernel
theorem dX6_isBeside_44 : decode cX6_isBeside 44 = .ok (.if_icmp .ne 7, 3) := by decide +kernel
theorem dX6_isBeside_47 : decode cX6_isBeside 47 = .ok (.iconst 1, 1) := by decide +kernel
theorem dX6_isBeside_48 : decode cX6_isBeside 48 = .ok (.goto 4, 3) := by decide +kernel
theorem dX6_isBeside_51 : decode cX6_isBeside 51 = .ok (.iconst 0, 1) := by decide +kernel
theorem dX6_isBeside_52 : decode cX6_isBeside 52 = .ok (.istore_n 3, 1) := by decide +kernel
theorem dX6_isBeside_53 : decode cX6_isBeside 53 = .ok (.iinc 4 1, 3) := by decide +kernel
theorem dX6_isBeside_56 : decode cX6_isBeside 56 = .ok (.goto (-51), 3) := by decide +kernel
theorem dX6_isBeside_59 : decode cX6_isBeside 59 = .ok (.iload_n 3, 1) := by decide +kernel
theorem dX6_isBeside_60 : decode cX6_isBeside 60 = .ok (.ireturn, 1) := by decide +kernel
theorem dX6_way_0 : decode cX6_way 0 = .ok (.aload_n 0, 1) := by decide +kernel
theorem dX6_way_1 : decode cX6_way 1 = .ok (.iload_n 1, 1) := by decide +kernel
theorem dX6_way_2 : decode cX6_way 2 = .ok (.invokevirtual 132, 3) := by decide +kernel
theorem dX6_way_5 : decode cX6_way 5 = .ok (.ifCond .eq 5, 3) := by decide +kernel
theorem dX6_way_8 : decode cX6_way 8 = .ok (.iconst (-1), 1) := by decide +kernel
theorem dX6_way_9 : decode cX6_way 9 = .ok (.ireturn, 1) := by decide +kernel
theorem dX6_way_10 : decode cX6_way 10 = .ok (.aload_n 0, 1) := by decide +kernel
theorem dX6_way_11 : decode cX6_way 11 = .ok (.iload_n 1, 1) := by decide +kernel
theorem dX6_way_12 : decode cX6_way 12 = .ok (.invokevirtual 135, 3) := by decide +kernel
theorem dX6_way_15 : decode cX6_way 15 = .ok (.aload_n 0, 1) := by decide +kernel
theorem dX6_way_16 : decode cX6_way 16 = .ok (.getfield 22, 3) := by decide +kernel
theorem dX6_way_19 : decode cX6_way 19 = .ok (.bipush 112, 2) := by decide +kernel
theorem dX6_way_21 : decode cX6_way 21 = .ok (.iaload, 1) := by decide +kernel
theorem dX6_way_22 : decode cX6_way 22 = .ok (.ifCond .ge 7, 3) := by decide +kernel
theorem dX6_way_25 : decode cX6_way 25 = .ok (.iconst (-1), 1) := by decide +kernel
theorem dX6_way_26 : decode cX6_way 26 = .ok (.goto 10, 3) := by decide +kernel
theorem dX6_way_29 : decode cX6_way 29 = .ok (.aload_n 0, 1) := by decide +kernel
theorem dX6_way_30 : decode cX6_way 30 = .ok (.getfield 22, 3) := by decide +kernel
theorem dX6_way_33 : decode cX6_way 33 = .ok (.bipush 112, 2) := by decide +kernel
theorem dX6_way_35 : decode cX6_way 35 = .ok (.iaload, 1) := by decide +kernel
theorem dX6_way_36 : decode cX6_way 36 = .ok (.ireturn, 1) := by decide +kernel
theorem dX6_nextLoose_0 : decode cX6_nextLoose 0 = .ok (.iload_n 1, 1) := by decide +kernel
theorem dX6_nextLoose_1 : decode cX6_nextLoose 1 = .ok (.istore_n 3, 1) := by decide +kernel
theorem dX6_nextLoose_2 : decode cX6_nextLoose 2 = .ok (.iload_n 3, 1) := by decide +kernel
theorem dX6_nextLoose_3 : decode cX6_nextLoose 3 = .ok (.aload_n 0, 1) := by decide +kernel
theorem dX6_nextLoose_4 : decode cX6_nextLoose 4 = .ok (.invokevirtual 45, 3) := by decide +kernel
theorem dX6_nextLoose_7 : decode cX6_nextLoose 7 = .ok (.if_icmp .ge 59, 3) := by decide +kernel
theorem dX6_nextLoose_10 : decode cX6_nextLoose 10 = .ok (.aload_n 0, 1) := by decide +kernel
theorem dX6_nextLoose_11 : decode cX6_nextLoose 11 = .ok (.getfield 19, 3) := by decide +kernel
theorem dX6_nextLoose_14 : decode cX6_nextLoose 14 = .ok (.iload_n 3, 1) := by decide +kernel
theorem dX6_nextLoose_15 : decode cX6_nextLoose 15 = .ok (.iaload, 1) := by decide +kernel
theorem dX6_nextLoose_16 : decode cX6_nextLoose 16 = .ok (.iload_n 3, 1) := by decide +kernel
theorem dX6_nextLoose_17 : decode cX6_nextLoose 17 = .ok (.if_icmp .ne 15, 3) := by decide +kernel
theorem dX6_nextLoose_20 : decode cX6_nextLoose 20 = .ok (.aload_n 0, 1) := by decide +kernel
theorem dX6_nextLoose_21 : decode cX6_nextLoose 21 = .ok (.iload_n 3, 1) := by decide +kernel
theorem dX6_nextLoose_22 : decode cX6_nextLoose 22 = .ok (.invokevirtual 132, 3) := by decide +kernel
theorem dX6_nextLoose_25 : decode cX6_nextLoose 25 = .ok (.ifCond .ne 7, 3) := by decide +kernel
theorem dX6_nextLoose_28 : decode cX6_nextLoose 28 = .ok (.iconst 1, 1) := by decide +kernel
theorem dX6_nextLoose_29 : decode cX6_nextLoose 29 = .ok (.goto 4, 3) := by decide +kernel
theorem dX6_nextLoose_32 : decode cX6_nextLoose 32 = .ok (.iconst 0, 1) := by decide +kernel
theorem dX6_nextLoose_33 : decode cX6_nextLoose 33 = .ok (.istore 4, 2) := by decide +kernel
theorem dX6_nextLoose_35 : decode cX6_nextLoose 35 = .ok (.iload 4, 2) := by decide +kernel
theorem dX6_nextLoose_37 : decode cX6_nextLoose 37 = .ok (.ifCond .eq 23, 3) := by decide +kernel
theorem dX6_nextLoose_40 : decode cX6_nextLoose 40 = .ok (.aload_n 0, 1) := by decide +kernel
theorem dX6_nextLoose_41 : decode cX6_nextLoose 41 = .ok (.iload_n 3, 1) := by decide +kernel
theorem dX6_nextLoose_42 : decode cX6_nextLoose 42 = .ok (.invokevirtual 139, 3) := by decide +kernel
theorem dX6_nextLoose_45 : decode cX6_nextLoose 45 = .ok (.iconst (-1), 1) := by decide +kernel
theorem dX6_nextLoose_46 : decode cX6_nextLoose 46 = .ok (.if_icmp .eq 7, 3) := by decide +kernel
theorem dX6_nextLoose_49 : decode cX6_nextLoose 49 = .ok (.iconst 1, 1) := by decide +kernel
theorem dX6_nextLoose_50 : decode cX6_nextLoose 50 = .ok (.goto 4, 3) := by decide +kernel
theorem dX6_nextLoose_53 : decode cX6_nextLoose 53 = .ok (.iconst 0, 1) := by decide +kernel
theorem dX6_nextLoose_54 : decode cX6_nextLoose 54 = .ok (.iload_n 2, 1) := by decide +kernel
theorem dX6_nextLoose_55 : decode cX6_nextLoose 55 = .ok (.if_icmp .ne 5, 3) := by decide +kernel
theorem dX6_nextLoose_58 : decode cX6_nextLoose 58 = .ok (.iload_n 3, 1) := by decide +kernel
theorem dX6_nextLoose_59 : decode cX6_nextLoose 59 = .ok (.ireturn, 1) := by decide +kernel
theorem dX6_nextLoose_60 : decode cX6_nextLoose 60 = .ok (.iinc 3 1, 3) := by decide +kernel
theorem dX6_nextLoose_63 : decode cX6_nextLoose 63 = .ok (.goto (-61), 3) := by decide +kernel
theorem dX6_nextLoose_66 : decode cX6_nextLoose 66 = .ok (.iconst (-1), 1) := by decide +kernel
theorem dX6_nextLoose_67 : decode cX6_nextLoose 67 = .ok (.ireturn, 1) := by decide +kernel
theorem dX6_takes_0 : decode cX6_takes 0 = .ok (.aload_n 0, 1) := by decide +kernel
theorem dX6_takes_1 : decode cX6_takes 1 = .ok (.iload_n 1, 1) := by decide +kernel
theorem dX6_takes_2 : decode cX6_takes 2 = .ok (.iconst 1, 1) := by decide +kernel
theorem dX6_takes_3 : decode cX6_takes 3 = .ok (.invokevirtual 142, 3) := by decide +kernel
theorem dX6_takes_6 : decode cX6_takes 6 = .ok (.istore_n 2, 1) := by decide +kernel
theorem dX6_takes_7 : decode cX6_takes 7 = .ok (.aload_n 0, 1) := by decide +kernel
theorem dX6_takes_8 : decode cX6_takes 8 = .ok (.getfield 7, 3) := by decide +kernel
theorem dX6_takes_11 : decode cX6_takes 11 = .ok (.bipush 7, 2) := by decide +kernel
theorem dX6_takes_13 : decode cX6_takes 13 = .ok (.iaload, 1) := by decide +kernel
theorem dX6_takes_14 : decode cX6_takes 14 = .ok (.bipush 40, 2) := by decide +kernel
theorem dX6_takes_16 : decode cX6_takes 16 = .ok (.if_icmp .ge 66, 3) := by decide +kernel
theorem dX6_takes_19 : decode cX6_takes 19 = .ok (.aload_n 0, 1) := by decide +kernel
theorem dX6_takes_20 : decode cX6_takes 20 = .ok (.getfield 7, 3) := by decide +kernel
theorem dX6_takes_23 : decode cX6_takes 23 = .ok (.bipush 106, 2) := by decide +kernel
theorem dX6_takes_25 : decode cX6_takes 25 = .ok (.iconst 3, 1) := by decide +kernel
theorem dX6_takes_26 : decode cX6_takes 26 = .ok (.aload_n 0, 1) := by decide +kernel
theorem dX6_takes_27 : decode cX6_takes 27 = .ok (.getfield 7, 3) := by decide +kernel
theorem dX6_takes_30 : decode cX6_takes 30 = .ok (.bipush 7, 2) := by decide +kernel
theorem dX6_takes_32 : decode cX6_takes 32 = .ok (.iaload, 1) := by decide +kernel
theorem dX6_takes_33 : decode cX6_takes 33 = .ok (.imul, 1) := by decide +kernel
theorem dX6_takes_34 : decode cX6_takes 34 = .ok (.iadd, 1) := by decide +kernel
theorem dX6_takes_35 : decode cX6_takes 35 = .ok (.iload_n 1, 1) := by decide +kernel
theorem dX6_takes_36 : decode cX6_takes 36 = .ok (.iastore, 1) := by decide +kernel
theorem dX6_takes_37 : decode cX6_takes 37 = .ok (.aload_n 0, 1) := by decide +kernel
theorem dX6_takes_38 : decode cX6_takes 38 = .ok (.getfield 7, 3) := by decide +kernel
theorem dX6_takes_41 : decode cX6_takes 41 = .ok (.bipush 106, 2) := by decide +kernel
theorem dX6_takes_43 : decode cX6_takes 43 = .ok (.iconst 3, 1) := by decide +kernel
theorem dX6_takes_44 : decode cX6_takes 44 = .ok (.aload_n 0, 1) := by decide +kernel
theorem dX6_takes_45 : decode cX6_takes 45 = .ok (.getfield 7, 3) := by decide +kernel
theorem dX6_takes_48 : decode cX6_takes 48 = .ok (.bipush 7, 2) := by decide +kernel
theorem dX6_takes_50 : decode cX6_takes 50 = .ok (.iaload, 1) := by decide +kernel
theorem dX6_takes_51 : decode cX6_takes 51 = .ok (.imul, 1) := by decide +kernel
theorem dX6_takes_52 : decode cX6_takes 52 = .ok (.iadd, 1) := by decide +kernel
theorem dX6_takes_53 : decode cX6_takes 53 = .ok (.iconst 1, 1) := by decide +kernel
theorem dX6_takes_54 : decode cX6_takes 54 = .ok (.iadd, 1) := by decide +kernel
theorem dX6_takes_55 : decode cX6_takes 55 = .ok (.iload_n 2, 1) := by decide +kernel
theorem dX6_takes_56 : decode cX6_takes 56 = .ok (.iastore, 1) := by decide +kernel
theorem dX6_takes_57 : decode cX6_takes 57 = .ok (.aload_n 0, 1) := by decide +kernel
theorem dX6_takes_58 : decode cX6_takes 58 = .ok (.getfield 7, 3) := by decide +kernel
theorem dX6_takes_61 : decode cX6_takes 61 = .ok (.bipush 106, 2) := by decide +kernel
theorem dX6_takes_63 : decode cX6_takes 63 = .ok (.iconst 3, 1) := by decide +kernel
theorem dX6_takes_64 : decode cX6_takes 64 = .ok (.aload_n 0, 1) := by decide +kernel
theorem dX6_takes_65 : decode cX6_takes 65 = .ok (.getfield 7, 3) := by decide +kernel
theorem dX6_takes_68 : decode cX6_takes 68 = .ok (.bipush 7, 2) := by decide +kernel
theorem dX6_takes_70 : decode cX6_takes 70 = .ok (.iaload, 1) := by decide +kernel
theorem dX6_takes_71 : decode cX6_takes 71 = .ok (.imul, 1) := by decide +kernel
theorem dX6_takes_72 : decode cX6_takes 72 = .ok (.iadd, 1) := by decide +kernel
theorem dX6_takes_73 : decode cX6_takes 73 = .ok (.iconst 2, 1) := by decide +kernel
theorem dX6_takes_74 : decode cX6_takes 74 = .ok (.iadd, 1) := by decide +kernel
theorem dX6_takes_75 : decode cX6_takes 75 = .ok (.aload_n 0, 1) := by decide +kernel
theorem dX6_takes_76 : decode cX6_takes 76 = .ok (.getfield 7, 3) := by decide +kernel
theorem dX6_takes_79 : decode cX6_takes 79 = .ok (.iconst 3, 1) := by decide +kernel
theorem dX6_takes_80 : decode cX6_takes 80 = .ok (.iaload, 1) := by decide +kernel
theorem dX6_takes_81 : decode cX6_takes 81 = .ok (.iastore, 1) := by decide +kernel
theorem dX6_takes_82 : decode cX6_takes 82 = .ok (.aload_n 0, 1) := by decide +kernel
theorem dX6_takes_83 : decode cX6_takes 83 = .ok (.getfield 7, 3) := by decide +kernel
theorem dX6_takes_86 : decode cX6_takes 86 = .ok (.bipush 7, 2) := by decide +kernel
theorem dX6_takes_88 : decode cX6_takes 88 = .ok (.dup2, 1) := by decide +kernel
theorem dX6_takes_89 : decode cX6_takes 89 = .ok (.iaload, 1) := by decide +kernel
theorem dX6_takes_90 : decode cX6_takes 90 = .ok (.iconst 1, 1) := by decide +kernel
theorem dX6_takes_91 : decode cX6_takes 91 = .ok (.iadd, 1) := by decide +kernel
theorem dX6_takes_92 : decode cX6_takes 92 = .ok (.iastore, 1) := by decide +kernel
theorem dX6_takes_93 : decode cX6_takes 93 = .ok (.aload_n 0, 1) := by decide +kernel
theorem dX6_takes_94 : decode cX6_takes 94 = .ok (.getfield 7, 3) := by decide +kernel
theorem dX6_takes_97 : decode cX6_takes 97 = .ok (.iconst 5, 1) := by decide +kernel
theorem dX6_takes_98 : decode cX6_takes 98 = .ok (.dup2, 1) := by decide +kernel
theorem dX6_takes_99 : decode cX6_takes 99 = .ok (.iaload, 1) := by decide +kernel
theorem dX6_takes_100 : decode cX6_takes 100 = .ok (.iload_n 2, 1) := by decide +kernel
theorem dX6_takes_101 : decode cX6_takes 101 = .ok (.iadd, 1) := by decide +kernel
theorem dX6_takes_102 : decode cX6_takes 102 = .ok (.iastore, 1) := by decide +kernel
theorem dX6_takes_103 : decode cX6_takes 103 = .ok (.iconst 0, 1) := by decide +kernel
theorem dX6_takes_104 : decode cX6_takes 104 = .ok (.istore_n 3, 1) := by decide +kernel
theorem dX6_takes_105 : decode cX6_takes 105 = .ok (.iload_n 3, 1) := by decide +kernel
theorem dX6_takes_106 : decode cX6_takes 106 = .ok (.aload_n 0, 1) := by decide +kernel
theorem dX6_takes_107 : decode cX6_takes 107 = .ok (.invokevirtual 45, 3) := by decide +kernel
theorem dX6_takes_110 : decode cX6_takes 110 = .ok (.if_icmp .ge 41, 3) := by decide +kernel
theorem dX6_takes_113 : decode cX6_takes 113 = .ok (.aload_n 0, 1) := by decide +kernel
theorem dX6_takes_114 : decode cX6_takes 114 = .ok (.getfield 7, 3) := by decide +kernel
theorem dX6_takes_117 : decode cX6_takes 117 = .ok (.bipush 8, 2) := by decide +kernel
theorem dX6_takes_119 : decode cX6_takes 119 = .ok (.iload_n 3, 1) := by decide +kernel
theorem dX6_takes_120 : decode cX6_takes 120 = .ok (.iadd, 1) := by decide +kernel
theorem dX6_takes_121 : decode cX6_takes 121 = .ok (.aload_n 0, 1) := by decide +kernel
theorem dX6_takes_122 : decode cX6_takes 122 = .ok (.getfield 19, 3) := by decide +kernel
theorem dX6_takes_125 : decode cX6_takes 125 = .ok (.iload_n 3, 1) := by decide +kernel
theorem dX6_takes_126 : decode cX6_takes 126 = .ok (.iaload, 1) := by decide +kernel
theorem dX6_takes_127 : decode cX6_takes 127 = .ok (.iload_n 1, 1) := by decide +kernel
theorem dX6_takes_128 : decode cX6_takes 128 = .ok (.if_icmp .ne 7, 3) := by decide +kernel
theorem dX6_takes_131 : decode cX6_takes 131 = .ok (.iconst 0, 1) := by decide +kernel
theorem dX6_takes_132 : decode cX6_takes 132 = .ok (.goto 12, 3) := by decide +kernel
theorem dX6_takes_135 : decode cX6_takes 135 = .ok (.aload_n 0, 1) := by decide +kernel
theorem dX6_takes_136 : decode cX6_takes 136 = .ok (.getfield 7, 3) := by decide +kernel
theorem dX6_takes_139 : decode cX6_takes 139 = .ok (.bipush 8, 2) := by decide +kernel
theorem dX6_takes_141 : decode cX6_takes 141 = .ok (.iload_n 3, 1) := by decide +kernel
theorem dX6_takes_142 : decode cX6_takes 142 = .ok (.iadd, 1) := by decide +kernel
theorem dX6_takes_143 : decode cX6_takes 143 = .ok (.iaload, 1) := by decide +kernel
theorem dX6_takes_144 : decode cX6_takes 144 = .ok (.iastore, 1) := by decide +kernel
theorem dX6_takes_145 : decode cX6_takes 145 = .ok (.iinc 3 1, 3) := by decide +kernel
theorem dX6_takes_148 : decode cX6_takes 148 = .ok (.goto (-43), 3) := by decide +kernel
theorem dX6_takes_151 : decode cX6_takes 151 = .ok (.return_, 1) := by decide +kernel
theorem dX6_takeOut_0 : decode cX6_takeOut 0 = .ok (.aload_n 0, 1) := by decide +kernel
theorem dX6_takeOut_1 : decode cX6_takeOut 1 = .ok (.iload_n 1, 1) := by decide +kernel
theorem dX6_takeOut_2 : decode cX6_takeOut 2 = .ok (.invokevirtual 69, 3) := by decide +kernel
theorem dX6_takeOut_5 : decode cX6_takeOut 5 = .ok (.ifCond .ne 9, 3) := by decide +kernel
theorem dX6_takeOut_8 : decode cX6_takeOut 8 = .ok (.aload_n 0, 1) := by decide +kernel
theorem dX6_takeOut_9 : decode cX6_takeOut 9 = .ok (.iconst 1, 1) := by decide +kernel
theorem dX6_takeOut_10 : decode cX6_takeOut 10 = .ok (.invokevirtual 59, 3) := by decide +kernel
theorem dX6_takeOut_13 : decode cX6_takeOut 13 = .ok (.ireturn, 1) := by decide +kernel
theorem dX6_takeOut_14 : decode cX6_takeOut 14 = .ok (.aload_n 0, 1) := by decide +kernel
theorem dX6_takeOut_15 : decode cX6_takeOut 15 = .ok (.invokevirtual 146, 3) := by decide +kernel
theorem dX6_takeOut_18 : decode cX6_takeOut 18 = .ok (.aload_n 0, 1) := by decide +kernel
theorem dX6_takeOut_19 : decode cX6_takeOut 19 = .ok (.getfield 19, 3) := by decide +kernel
theorem dX6_takeOut_22 : decode cX6_takeOut 22 = .ok (.iload_n 1, 1) := by decide +kernel
theorem dX6_takeOut_23 : decode cX6_takeOut 23 = .ok (.iaload, 1) := by decide +kernel
theorem dX6_takeOut_24 : decode cX6_takeOut 24 = .ok (.istore_n 2, 1) := by decide +kernel
theorem dX6_takeOut_25 : decode cX6_takeOut 25 = .ok (.iload_n 2, 1) := by decide +kernel
theorem dX6_takeOut_26 : decode cX6_takeOut 26 = .ok (.iconst (-1), 1) := by decide +kernel
theorem dX6_takeOut_27 : decode cX6_takeOut 27 = .ok (.if_icmp .eq 12, 3) := by decide +kernel
theorem dX6_takeOut_30 : decode cX6_takeOut 30 = .ok (.aload_n 0, 1) := by decide +kernel
theorem dX6_takeOut_31 : decode cX6_takeOut 31 = .ok (.iload_n 2, 1) := by decide +kernel
theorem dX6_takeOut_32 : decode cX6_takeOut 32 = .ok (.invokevirtual 139, 3) := by decide +kernel
theorem dX6_takeOut_35 : decode cX6_takeOut 35 = .ok (.iconst (-1), 1) := by decide +kernel
theorem dX6_takeOut_36 : decode cX6_takeOut 36 = .ok (.if_icmp .ne 9, 3) := by decide +kernel
theorem dX6_takeOut_39 : decode cX6_takeOut 39 = .ok (.aload_n 0, 1) := by decide +kernel
theorem dX6_takeOut_40 : decode cX6_takeOut 40 = .ok (.iconst 2, 1) := by decide +kernel
theorem dX6_takeOut_41 : decode cX6_takeOut 41 = .ok (.invokevirtual 59, 3) := by decide +kernel
theorem dX6_takeOut_44 : decode cX6_takeOut 44 = .ok (.ireturn, 1) := by decide +kernel
theorem dX6_takeOut_45 : decode cX6_takeOut 45 = .ok (.aload_n 0, 1) := by decide +kernel
theorem dX6_takeOut_46 : decode cX6_takeOut 46 = .ok (.invokevirtual 63, 3) := by decide +kernel
theorem dX6_takeOut_49 : decode cX6_takeOut 49 = .ok (.aload_n 0, 1) := by decide +kernel
theorem dX6_takeOut_50 : decode cX6_takeOut 50 = .ok (.iload_n 2, 1) := by decide +kernel
theorem dX6_takeOut_51 : decode cX6_takeOut 51 = .ok (.iconst 1, 1) := by decide +kernel
theorem dX6_takeOut_52 : decode cX6_takeOut 52 = .ok (.invokevirtual 142, 3) := by decide +kernel
theorem dX6_takeOut_55 : decode cX6_takeOut 55 = .ok (.istore_n 3, 1) := by decide +kernel
theorem dX6_takeOut_56 : decode cX6_takeOut 56 = .ok (.aload_n 0, 1) := by decide +kernel
theorem dX6_takeOut_57 : decode cX6_takeOut 57 = .ok (.iload_n 2, 1) := by decide +kernel
theorem dX6_takeOut_58 : decode cX6_takeOut 58 = .ok (.invokevirtual 149, 3) := by decide +kernel
theorem dX6_takeOut_61 : decode cX6_takeOut 61 = .ok (.aload_n 0, 1) := by decide +kernel
theorem dX6_takeOut_62 : decode cX6_takeOut 62 = .ok (.iload_n 3, 1) := by decide +kernel
theorem dX6_takeOut_63 : decode cX6_takeOut 63 = .ok (.invokevirtual 66, 3) := by decide +kernel
theorem dX6_takeOut_66 : decode cX6_takeOut 66 = .ok (.ireturn, 1) := by decide +kernel
theorem dX6_takesAll_0 : decode cX6_takesAll 0 = .ok (.iconst 0, 1) := by decide +kernel
theorem dX6_takesAll_1 : decode cX6_takesAll 1 = .ok (.istore_n 1, 1) := by decide +kernel
theorem dX6_takesAll_2 : decode cX6_takesAll 2 = .ok (.iconst 0, 1) := by decide +kernel
theorem dX6_takesAll_3 : decode cX6_takesAll 3 = .ok (.istore_n 2, 1) := by decide +kernel
theorem dX6_takesAll_4 : decode cX6_takesAll 4 = .ok (.iload_n 2, 1) := by decide +kernel
theorem dX6_takesAll_5 : decode cX6_takesAll 5 = .ok (.iconst (-1), 1) := by decide +kernel
theorem dX6_takesAll_6 : decode cX6_takesAll 6 = .ok (.if_icmp .eq 30, 3) := by decide +kernel
theorem dX6_takesAll_9 : decode cX6_takesAll 9 = .ok (.aload_n 0, 1) := by decide +kernel
theorem dX6_takesAll_10 : decode cX6_takesAll 10 = .ok (.invokevirtual 146, 3) := by decide +kernel
theorem dX6_takesAll_13 : decode cX6_takesAll 13 = .ok (.aload_n 0, 1) := by decide +kernel
theorem dX6_takesAll_14 : decode cX6_takesAll 14 = .ok (.iconst 0, 1) := by decide +kernel
theorem dX6_takesAll_15 : decode cX6_takesAll 15 = .ok (.iconst 1, 1) := by decide +kernel
theorem dX6_takesAll_16 : decode cX6_takesAll 16 = .ok (.invokevirtual 152, 3) := by decide +kernel
theorem dX6_takesAll_19 : decode cX6_takesAll 19 = .ok (.istore_n 2, 1) := by decide +kernel
theorem dX6_takesAll_20 : decode cX6_takesAll 20 = .ok (.iload_n 2, 1) := by decide +kernel
theorem dX6_takesAll_21 : decode cX6_takesAll 21 = .ok (.iconst (-1), 1) := by decide +kernel
theorem dX6_takesAll_22 : decode cX6_takesAll 22 = .ok (.if_icmp .eq (-18), 3) := by decide +kernel
theorem dX6_takesAll_25 : decode cX6_takesAll 25 = .ok (.aload_n 0, 1) := by decide +kernel
theorem dX6_takesAll_26 : decode cX6_takesAll 26 = .ok (.iload_n 2, 1) := by decide +kernel
theorem dX6_takesAll_27 : decode cX6_takesAll 27 = .ok (.invokevirtual 149, 3) := by decide +kernel
theorem dX6_takesAll_30 : decode cX6_takesAll 30 = .ok (.iinc 1 1, 3) := by decide +kernel
theorem dX6_takesAll_33 : decode cX6_takesAll 33 = .ok (.goto (-29), 3) := by decide +kernel
theorem dX6_takesAll_36 : decode cX6_takesAll 36 = .ok (.iload_n 1, 1) := by decide +kernel
theorem dX6_takesAll_37 : decode cX6_takesAll 37 = .ok (.ireturn, 1) := by decide +kernel
theorem dX6_takeAll_0 : decode cX6_takeAll 0 = .ok (.aload_n 0, 1) := by decide +kernel
theorem dX6_takeAll_1 : decode cX6_takeAll 1 = .ok (.invokevirtual 63, 3) := by decide +kernel
theorem dX6_takeAll_4 : decode cX6_takeAll 4 = .ok (.aload_n 0, 1) := by decide +kernel
theorem dX6_takeAll_5 : decode cX6_takeAll 5 = .ok (.aload_n 0, 1) := by decide +kernel
theorem dX6_takeAll_6 : decode cX6_takeAll 6 = .ok (.invokevirtual 155, 3) := by decide +kernel
theorem dX6_takeAll_9 : decode cX6_takeAll 9 = .ok (.invokevirtual 66, 3) := by decide +kernel
theorem dX6_takeAll_12 : decode cX6_takeAll 12 = .ok (.ireturn, 1) := by decide +kernel
theorem dX6_setMelt_0 : decode cX6_setMelt 0 = .ok (.iload_n 1, 1) := by decide +kernel
theorem dX6_setMelt_1 : decode cX6_setMelt 1 = .ok (.i2l, 1) := by decide +kernel
theorem dX6_setMelt_2 : decode cX6_setMelt 2 = .ok (.lconst 0, 1) := by decide +kernel
theorem dX6_setMelt_3 : decode cX6_setMelt 3 = .ok (.ldc2_w 158, 3) := by decide +kernel
theorem dX6_setMelt_6 : decode cX6_setMelt 6 = .ok (.invokestatic 49, 3) := by decide +kernel
theorem dX6_setMelt_9 : decode cX6_setMelt 9 = .ok (.ifCond .ne 9, 3) := by decide +kernel
theorem dX6_setMelt_12 : decode cX6_setMelt 12 = .ok (.aload_n 0, 1) := by decide +kernel
theorem dX6_setMelt_13 : decode cX6_setMelt 13 = .ok (.iconst 1, 1) := by decide +kernel
theorem dX6_setMelt_14 : decode cX6_setMelt 14 = .ok (.invokevirtual 59, 3) := by decide +kernel
theorem dX6_setMelt_17 : decode cX6_setMelt 17 = .ok (.ireturn, 1) := by decide +kernel
theorem dX6_setMelt_18 : decode cX6_setMelt 18 = .ok (.aload_n 0, 1) := by decide +kernel
theorem dX6_setMelt_19 : decode cX6_setMelt 19 = .ok (.invokevirtual 63, 3) := by decide +kernel
theorem dX6_setMelt_22 : decode cX6_setMelt 22 = .ok (.aload_n 0, 1) := by decide +kernel
theorem dX6_setMelt_23 : decode cX6_setMelt 23 = .ok (.getfield 7, 3) := by decide +kernel
theorem dX6_setMelt_26 : decode cX6_setMelt 26 = .ok (.iconst 2, 1) := by decide +kernel
theorem dX6_setMelt_27 : decode cX6_setMelt 27 = .ok (.iaload, 1) := by decide +kernel
theorem dX6_setMelt_28 : decode cX6_setMelt 28 = .ok (.istore_n 2, 1) := by decide +kernel
theorem dX6_setMelt_29 : decode cX6_setMelt 29 = .ok (.aload_n 0, 1) := by decide +kernel
theorem dX6_setMelt_30 : decode cX6_setMelt 30 = .ok (.getfield 7, 3) := by decide +kernel
theorem dX6_setMelt_33 : decode cX6_setMelt 33 = .ok (.iconst 2, 1) := by decide +kernel
theorem dX6_setMelt_34 : decode cX6_setMelt 34 = .ok (.iload_n 1, 1) := by decide +kernel
theorem dX6_setMelt_35 : decode cX6_setMelt 35 = .ok (.iastore, 1) := by decide +kernel
theorem dX6_setMelt_36 : decode cX6_setMelt 36 = .ok (.aload_n 0, 1) := by decide +kernel
theorem dX6_setMelt_37 : decode cX6_setMelt 37 = .ok (.iload_n 2, 1) := by decide +kernel
theorem dX6_setMelt_38 : decode cX6_setMelt 38 = .ok (.invokevirtual 66, 3) := by decide +kernel
theorem dX6_setMelt_41 : decode cX6_setMelt 41 = .ok (.ireturn, 1) := by decide +kernel
theorem dX6_waterBeside_0 : decode cX6_waterBeside 0 = .ok (.aload_n 0, 1) := by decide +kernel
theorem dX6_waterBeside_1 : decode cX6_waterBeside 1 = .ok (.getfield 7, 3) := by decide +kernel
theorem dX6_waterBeside_4 : decode cX6_waterBeside 4 = .ok (.iconst 0, 1) := by decide +kernel
theorem dX6_waterBeside_5 : decode cX6_waterBeside 5 = .ok (.iaload, 1) := by decide +kernel
theorem dX6_waterBeside_6 : decode cX6_waterBeside 6 = .ok (.istore_n 2, 1) := by decide +kernel
theorem dX6_waterBeside_7 : decode cX6_waterBeside 7 = .ok (.aload_n 0, 1) := by decide +kernel
theorem dX6_waterBeside_8 : decode cX6_waterBeside 8 = .ok (.iload_n 1, 1) := by decide +kernel
theorem dX6_waterBeside_9 : decode cX6_waterBeside 9 = .ok (.invokevirtual 76, 3) := by decide +kernel
theorem dX6_waterBeside_12 : decode cX6_waterBeside 12 = .ok (.aload_n 0, 1) := by decide +kernel
theorem dX6_waterBeside_13 : decode cX6_waterBeside 13 = .ok (.getfield 7, 3) := by decide +kernel
theorem dX6_waterBeside_16 : decode cX6_waterBeside 16 = .ok (.iconst 1, 1) := by decide +kernel
theorem dX6_waterBeside_17 : decode cX6_waterBeside 17 = .ok (.iaload, 1) := by decide +kernel
theorem dX6_waterBeside_18 : decode cX6_waterBeside 18 = .ok (.iconst 1, 1) := by decide +kernel
theorem dX6_waterBeside_19 : decode cX6_waterBeside 19 = .ok (.isub, 1) := by decide +kernel
theorem dX6_waterBeside_20 : decode cX6_waterBeside 20 = .ok (.if_icmp .eq 13, 3) := by decide +kernel
theorem dX6_waterBeside_23 : decode cX6_waterBeside 23 = .ok (.aload_n 0, 1) := by decide +kernel
theorem dX6_waterBeside_24 : decode cX6_waterBeside 24 = .ok (.iload_n 1, 1) := by decide +kernel
theorem dX6_waterBeside_25 : decode cX6_waterBeside 25 = .ok (.iload_n 2, 1) := by decide +kernel
theorem dX6_waterBeside_26 : decode cX6_waterBeside 26 = .ok (.iadd, 1) := by decide +kernel
theorem dX6_waterBeside_27 : decode cX6_waterBeside 27 = .ok (.invokevirtual 112, 3) := by decide +kernel
theorem dX6_waterBeside_30 : decode cX6_waterBeside 30 = .ok (.ifCond .ne 7, 3) := by decide +kernel
theorem dX6_waterBeside_33 : decode cX6_waterBeside 33 = .ok (.iconst 1, 1) := by decide +kernel
theorem dX6_waterBeside_34 : decode cX6_waterBeside 34 = .ok (.goto 4, 3) := by decide +kernel
theorem dX6_waterBeside_37 : decode cX6_waterBeside 37 = .ok (.iconst 0, 1) := by decide +kernel
theorem dX6_waterBeside_38 : decode cX6_waterBeside 38 = .ok (.istore_n 3, 1) := by decide +kernel
theorem dX6_waterBeside_39 : decode cX6_waterBeside 39 = .ok (.iload_n 3, 1) := by decide +kernel
theorem dX6_waterBeside_40 : decode cX6_waterBeside 40 = .ok (.aload_n 0, 1) := by decide +kernel
theorem dX6_waterBeside_41 : decode cX6_waterBeside 41 = .ok (.iload_n 1, 1) := by decide +kernel
theorem dX6_waterBeside_42 : decode cX6_waterBeside 42 = .ok (.invokevirtual 76, 3) := by decide +kernel
theorem dX6_waterBeside_45 : decode cX6_waterBeside 45 = .ok (.ifCond .le 17, 3) := by decide +kernel
theorem dX6_waterBeside_48 : decode cX6_waterBeside 48 = .ok (.aload_n 0, 1) := by decide +kernel
theorem dX6_waterBeside_49 : decode cX6_waterBeside 49 = .ok (.iload_n 1, 1) := by decide +kernel
theorem dX6_waterBeside_50 : decode cX6_waterBeside 50 = .ok (.iload_n 2, 1) := by decide +kernel
theorem dX6_waterBeside_51 : decode cX6_waterBeside 51 = .ok (.isub, 1) := by decide +kernel
theorem dX6_waterBeside_52 : decode cX6_waterBeside 52 = .ok (.invokevirtual 112, 3) := by decide +kernel
theorem dX6_waterBeside_55 : decode cX6_waterBeside 55 = .ok (.ifCond .ne 7, 3) := by decide +kernel
theorem dX6_waterBeside_58 : decode cX6_waterBeside 58 = .ok (.iconst 1, 1) := by decide +kernel
theorem dX6_waterBeside_59 : decode cX6_waterBeside 59 = .ok (.goto 4, 3) := by decide +kernel
theorem dX6_waterBeside_62 : decode cX6_waterBeside 62 = .ok (.iconst 0, 1) := by decide +kernel
theorem dX6_waterBeside_63 : decode cX6_waterBeside 63 = .ok (.iadd, 1) := by decide +kernel
theorem dX6_waterBeside_64 : decode cX6_waterBeside 64 = .ok (.istore_n 3, 1) := by decide +kernel
theorem dX6_waterBeside_65 : decode cX6_waterBeside 65 = .ok (.iload_n 3, 1) := by decide +kernel
theorem dX6_waterBeside_66 : decode cX6_waterBeside 66 = .ok (.aload_n 0, 1) := by decide +kernel
theorem dX6_waterBeside_67 : decode cX6_waterBeside 67 = .ok (.iload_n 1, 1) := by decide +kernel
theorem dX6_waterBeside_68 : decode cX6_waterBeside 68 = .ok (.invokevirtual 73, 3) := by decide +kernel
theorem dX6_waterBeside_71 : decode cX6_waterBeside 71 = .ok (.ifCond .le 17, 3) := by decide +kernel
theorem dX6_waterBeside_74 : decode cX6_waterBeside 74 = .ok (.aload_n 0, 1) := by decide +kernel
theorem dX6_waterBeside_75 : decode cX6_waterBeside 75 = .ok (.iload_n 1, 1) := by decide +kernel
theorem dX6_waterBeside_76 : decode cX6_waterBeside 76 = .ok (.iconst 1, 1) := by decide +kernel
theorem dX6_waterBeside_77 : decode cX6_waterBeside 77 = .ok (.isub, 1) := by decide +kernel
theorem dX6_waterBeside_78 : decode cX6_waterBeside 78 = .ok (.invokevirtual 112, 3) := by decide +kernel
theorem dX6_waterBeside_81 : decode cX6_waterBeside 81 = .ok (.ifCond .ne 7, 3) := by decide +kernel
theorem dX6_waterBeside_84 : decode cX6_waterBeside 84 = .ok (.iconst 1, 1) := by decide +kernel
theorem dX6_waterBeside_85 : decode cX6_waterBeside 85 = .ok (.goto 4, 3) := by decide +kernel
theorem dX6_waterBeside_88 : decode cX6_waterBeside 88 = .ok (.iconst 0, 1) := by decide +kernel
theorem dX6_waterBeside_89 : decode cX6_waterBeside 89 = .ok (.iadd, 1) := by decide +kernel
theorem dX6_waterBeside_90 : decode cX6_waterBeside 90 = .ok (.istore_n 3, 1) := by decide +kernel
theorem dX6_waterBeside_91 : decode cX6_waterBeside 91 = .ok (.iload_n 3, 1) := by decide +kernel
theorem dX6_waterBeside_92 : decode cX6_waterBeside 92 = .ok (.aload_n 0, 1) := by decide +kernel
theorem dX6_waterBeside_93 : decode cX6_waterBeside 93 = .ok (.iload_n 1, 1) := by decide +kernel
theorem dX6_waterBeside_94 : decode cX6_waterBeside 94 = .ok (.invokevirtual 73, 3) := by decide +kernel
theorem dX6_waterBeside_97 : decode cX6_waterBeside 97 = .ok (.iload_n 2, 1) := by decide +kernel
theorem dX6_waterBeside_98 : decode cX6_waterBeside 98 = .ok (.iconst 1, 1) := by decide +kernel
theorem dX6_waterBeside_99 : decode cX6_waterBeside 99 = .ok (.isub, 1) := by decide +kernel
theorem dX6_waterBeside_100 : decode cX6_waterBeside 100 = .ok (.if_icmp .ge 17, 3) := by decide +kernel
theorem dX6_waterBeside_103 : decode cX6_waterBeside 103 = .ok (.aload_n 0, 1) := by decide +kernel
theorem dX6_waterBeside_104 : decode cX6_waterBeside 104 = .ok (.iload_n 1, 1) := by decide +kernel
theorem dX6_waterBeside_105 : decode cX6_waterBeside 105 = .ok (.iconst 1, 1) := by decide +kernel
theorem dX6_waterBeside_106 : decode cX6_waterBeside 106 = .ok (.iadd, 1) := by decide +kernel
theorem dX6_waterBeside_107 : decode cX6_waterBeside 107 = .ok (.invokevirtual 112, 3) := by decide +kernel
theorem dX6_waterBeside_110 : decode cX6_waterBeside 110 = .ok (.ifCond .ne 7, 3) := by decide +kernel
theorem dX6_waterBeside_113 : decode cX6_waterBeside 113 = .ok (.iconst 1, 1) := by decide +kernel
theorem dX6_waterBeside_114 : decode cX6_waterBeside 114 = .ok (.goto 4, 3) := by decide +kernel
theorem dX6_waterBeside_117 : decode cX6_waterBeside 117 = .ok (.iconst 0, 1) := by decide +kernel
theorem dX6_waterBeside_118 : decode cX6_waterBeside 118 = .ok (.iadd, 1) := by decide +kernel
theorem dX6_waterBeside_119 : decode cX6_waterBeside 119 = .ok (.ireturn, 1) := by decide +kernel
theorem dX6_day_0 : decode cX6_day 0 = .ok (.iconst 0, 1) := by decide +kernel
theorem dX6_day_1 : decode cX6_day 1 = .ok (.istore_n 1, 1) := by decide +kernel
theorem dX6_day_2 : decode cX6_day 2 = .ok (.iconst 0, 1) := by decide +kernel
theorem dX6_day_3 : decode cX6_day 3 = .ok (.istore_n 2, 1) := by decide +kernel
theorem dX6_day_4 : decode cX6_day 4 = .ok (.iload_n 2, 1) := by decide +kernel
theorem dX6_day_5 : decode cX6_day 5 = .ok (.aload_n 0, 1) := by decide +kernel
theorem dX6_day_6 : decode cX6_day 6 = .ok (.invokevirtual 45, 3) := by decide +kernel
theorem dX6_day_9 : decode cX6_day 9 = .ok (.if_icmp .ge 72, 3) := by decide +kernel
theorem dX6_day_12 : decode cX6_day 12 = .ok (.aload_n 0, 1) := by decide +kernel
theorem dX6_day_13 : decode cX6_day 13 = .ok (.getfield 7, 3) := by decide +kernel
theorem dX6_day_16 : decode cX6_day 16 = .ok (.iconst 2, 1) := by decide +kernel
theorem dX6_day_17 : decode cX6_day 17 = .ok (.iaload, 1) := by decide +kernel
theorem dX6_day_18 : decode cX6_day 18 = .ok (.aload_n 0, 1) := by decide +kernel
theorem dX6_day_19 : decode cX6_day 19 = .ok (.iload_n 2, 1) := by decide +kernel
theorem dX6_day_20 : decode cX6_day 20 = .ok (.invokevirtual 160, 3) := by decide +kernel
theorem dX6_day_23 : decode cX6_day 23 = .ok (.iconst 1, 1) := by decide +kernel
theorem dX6_day_24 : decode cX6_day 24 = .ok (.if_icmp .le 7, 3) := by decide +kernel
theorem dX6_day_27 : decode cX6_day 27 = .ok (.iconst 1, 1) := by decide +kernel
theorem dX6_day_28 : decode cX6_day 28 = .ok (.goto 4, 3) := by decide +kernel
theorem dX6_day_31 : decode cX6_day 31 = .ok (.iconst 0, 1) := by decide +kernel
theorem dX6_day_32 : decode cX6_day 32 = .ok (.iadd, 1) := by decide +kernel
theorem dX6_day_33 : decode cX6_day 33 = .ok (.istore_n 3, 1) := by decide +kernel
theorem dX6_day_34 : decode cX6_day 34 = .ok (.aload_n 0, 1) := by decide +kernel
theorem dX6_day_35 : decode cX6_day 35 = .ok (.getfield 25, 3) := by decide +kernel
theorem dX6_day_38 : decode cX6_day 38 = .ok (.iload_n 2, 1) := by decide +kernel
theorem dX6_day_39 : decode cX6_day 39 = .ok (.iload_n 3, 1) := by decide +kernel
theorem dX6_day_40 : decode cX6_day 40 = .ok (.aload_n 0, 1) := by decide +kernel
theorem dX6_day_41 : decode cX6_day 41 = .ok (.getfield 7, 3) := by decide +kernel
theorem dX6_day_44 : decode cX6_day 44 = .ok (.bipush 8, 2) := by decide +kernel
theorem dX6_day_46 : decode cX6_day 46 = .ok (.iload_n 2, 1) := by decide +kernel
theorem dX6_day_47 : decode cX6_day 47 = .ok (.iadd, 1) := by decide +kernel
theorem dX6_day_48 : decode cX6_day 48 = .ok (.iaload, 1) := by decide +kernel
theorem dX6_day_49 : decode cX6_day 49 = .ok (.if_icmp .ge 7, 3) := by decide +kernel
theorem dX6_day_52 : decode cX6_day 52 = .ok (.iload_n 3, 1) := by decide +kernel
theorem dX6_day_53 : decode cX6_day 53 = .ok (.goto 12, 3) := by decide +kernel
theorem dX6_day_56 : decode cX6_day 56 = .ok (.aload_n 0, 1) := by decide +kernel
theorem dX6_day_57 : decode cX6_day 57 = .ok (.getfield 7, 3) := by decide +kernel
theorem dX6_day_60 : decode cX6_day 60 = .ok (.bipush 8, 2) := by decide +kernel
theorem dX6_day_62 : decode cX6_day 62 = .ok (.iload_n 2, 1) := by decide +kernel
theorem dX6_day_63 : decode cX6_day 63 = .ok (.iadd, 1) := by decide +kernel
theorem dX6_day_64 : decode cX6_day 64 = .ok (.iaload, 1) := by decide +kernel
theorem dX6_day_65 : decode cX6_day 65 = .ok (.iastore, 1) := by decide +kernel
theorem dX6_day_66 : decode cX6_day 66 = .ok (.iload_n 1, 1) := by decide +kernel
theorem dX6_day_67 : decode cX6_day 67 = .ok (.aload_n 0, 1) := by decide +kernel
theorem dX6_day_68 : decode cX6_day 68 = .ok (.getfield 25, 3) := by decide +kernel
theorem dX6_day_71 : decode cX6_day 71 = .ok (.iload_n 2, 1) := by decide +kernel
theorem dX6_day_72 : decode cX6_day 72 = .ok (.iaload, 1) := by decide +kernel
theorem dX6_day_73 : decode cX6_day 73 = .ok (.iadd, 1) := by decide +kernel
theorem dX6_day_74 : decode cX6_day 74 = .ok (.istore_n 1, 1) := by decide +kernel
theorem dX6_day_75 : decode cX6_day 75 = .ok (.iinc 2 1, 3) := by decide +kernel
theorem dX6_day_78 : decode cX6_day 78 = .ok (.goto (-74), 3) := by decide +kernel
theorem dX6_day_81 : decode cX6_day 81 = .ok (.iconst 0, 1) := by decide +kernel
theorem dX6_day_82 : decode cX6_day 82 = .ok (.istore_n 2, 1) := by decide +kernel
theorem dX6_day_83 : decode cX6_day 83 = .ok (.iload_n 2, 1) := by decide +kernel
theorem dX6_day_84 : decode cX6_day 84 = .ok (.aload_n 0, 1) := by decide +kernel
theorem dX6_day_85 : decode cX6_day 85 = .ok (.invokevirtual 45, 3) := by decide +kernel
theorem dX6_day_88 : decode cX6_day 88 = .ok (.if_icmp .ge 27, 3) := by decide +kernel
theorem dX6_day_91 : decode cX6_day 91 = .ok (.aload_n 0, 1) := by decide +kernel
theorem dX6_day_92 : decode cX6_day 92 = .ok (.getfield 7, 3) := by decide +kernel
theorem dX6_day_95 : decode cX6_day 95 = .ok (.bipush 8, 2) := by decide +kernel
theorem dX6_day_97 : decode cX6_day 97 = .ok (.iload_n 2, 1) := by decide +kernel
theorem dX6_day_98 : decode cX6_day 98 = .ok (.iadd, 1) := by decide +kernel
theorem dX6_day_99 : decode cX6_day 99 = .ok (.dup2, 1) := by decide +kernel
theorem dX6_day_100 : decode cX6_day 100 = .ok (.iaload, 1) := by decide +kernel
theorem dX6_day_101 : decode cX6_day 101 = .ok (.aload_n 0, 1) := by decide +kernel
theorem dX6_day_102 : decode cX6_day 102 = .ok (.getfield 25, 3) := by decide +kernel
theorem dX6_day_105 : decode cX6_day 105 = .ok (.iload_n 2, 1) := by decide +kernel
theorem dX6_day_106 : decode cX6_day 106 = .ok (.iaload, 1) := by decide +kernel
theorem dX6_day_107 : decode cX6_day 107 = .ok (.isub, 1) := by decide +kernel
theorem dX6_day_108 : decode cX6_day 108 = .ok (.iastore, 1) := by decide +kernel
theorem dX6_day_109 : decode cX6_day 109 = .ok (.iinc 2 1, 3) := by decide +kernel
theorem dX6_day_112 : decode cX6_day 112 = .ok (.goto (-29), 3) := by decide +kernel
theorem dX6_day_115 : decode cX6_day 115 = .ok (.aload_n 0, 1) := by decide +kernel
theorem dX6_day_116 : decode cX6_day 116 = .ok (.getfield 7, 3) := by decide +kernel
theorem dX6_day_119 : decode cX6_day 119 = .ok (.bipush 6, 2) := by decide +kernel
theorem dX6_day_121 : decode cX6_day 121 = .ok (.dup2, 1) := by decide +kernel
theorem dX6_day_122 : decode cX6_day 122 = .ok (.iaload, 1) := by decide +kernel
theorem dX6_day_123 : decode cX6_day 123 = .ok (.iload_n 1, 1) := by decide +kernel
theorem dX6_day_124 : decode cX6_day 124 = .ok (.iadd, 1) := by decide +kernel
theorem dX6_day_125 : decode cX6_day 125 = .ok (.iastore, 1) := by decide +kernel
theorem dX6_day_126 : decode cX6_day 126 = .ok (.aload_n 0, 1) := by decide +kernel
theorem dX6_day_127 : decode cX6_day 127 = .ok (.getfield 7, 3) := by decide +kernel
theorem dX6_day_130 : decode cX6_day 130 = .ok (.iconst 3, 1) := by decide +kernel
theorem dX6_day_131 : decode cX6_day 131 = .ok (.dup2, 1) := by decide +kernel
theorem dX6_day_132 : decode cX6_day 132 = .ok (.iaload, 1) := by decide +kernel
theorem dX6_day_133 : decode cX6_day 133 = .ok (.iconst 1, 1) := by decide +kernel
theorem dX6_day_134 : decode cX6_day 134 = .ok (.iadd, 1) := by decide +kernel
theorem dX6_day_135 : decode cX6_day 135 = .ok (.iastore, 1) := by decide +kernel
theorem dX6_day_136 : decode cX6_day 136 = .ok (.iload_n 1, 1) := by decide +kernel
theorem dX6_day_137 : decode cX6_day 137 = .ok (.ireturn, 1) := by decide +kernel
theorem dX6_pass_0 : decode cX6_pass 0 = .ok (.iload_n 1, 1) := by decide +kernel
theorem dX6_pass_1 : decode cX6_pass 1 = .ok (.i2l, 1) := by decide +kernel
theorem dX6_pass_2 : decode cX6_pass 2 = .ok (.lconst 1, 1) := by decide +kernel
theorem dX6_pass_3 : decode cX6_pass 3 = .ok (.ldc2_w 57, 3) := by decide +kernel
theorem dX6_pass_6 : decode cX6_pass 6 = .ok (.invokestatic 49, 3) := by decide +kernel
theorem dX6_pass_9 : decode cX6_pass 9 = .ok (.ifCond .ne 9, 3) := by decide +kernel
theorem dX6_pass_12 : decode cX6_pass 12 = .ok (.aload_n 0, 1) := by decide +kernel
theorem dX6_pass_13 : decode cX6_pass 13 = .ok (.iconst 1, 1) := by decide +kernel
theorem dX6_pass_14 : decode cX6_pass 14 = .ok (.invokevirtual 59, 3) := by decide +kernel
theorem dX6_pass_17 : decode cX6_pass 17 = .ok (.ireturn, 1) := by decide +kernel
theorem dX6_pass_18 : decode cX6_pass 18 = .ok (.aload_n 0, 1) := by decide +kernel
theorem dX6_pass_19 : decode cX6_pass 19 = .ok (.invokevirtual 63, 3) := by decide +kernel
theorem dX6_pass_22 : decode cX6_pass 22 = .ok (.iconst 0, 1) := by decide +kernel
theorem dX6_pass_23 : decode cX6_pass 23 = .ok (.istore_n 2, 1) := by decide +kernel
theorem dX6_pass_24 : decode cX6_pass 24 = .ok (.iconst 0, 1) := by decide +kernel
theorem dX6_pass_25 : decode cX6_pass 25 = .ok (.istore_n 3, 1) := by decide +kernel
theorem dX6_pass_26 : decode cX6_pass 26 = .ok (.iload_n 3, 1) := by decide +kernel
theorem dX6_pass_27 : decode cX6_pass 27 = .ok (.iload_n 1, 1) := by decide +kernel
theorem dX6_pass_28 : decode cX6_pass 28 = .ok (.if_icmp .ge 16, 3) := by decide +kernel
theorem dX6_pass_31 : decode cX6_pass 31 = .ok (.iload_n 2, 1) := by decide +kernel
theorem dX6_pass_32 : decode cX6_pass 32 = .ok (.aload_n 0, 1) := by decide +kernel
theorem dX6_pass_33 : decode cX6_pass 33 = .ok (.invokevirtual 163, 3) := by decide +kernel
theorem dX6_pass_36 : decode cX6_pass 36 = .ok (.iadd, 1) := by decide +kernel
theorem dX6_pass_37 : decode cX6_pass 37 = .ok (.istore_n 2, 1) := by decide +kernel
theorem dX6_pass_38 : decode cX6_pass 38 = .ok (.iinc 3 1, 3) := by decide +kernel
theorem dX6_pass_41 : decode cX6_pass 41 = .ok (.goto (-15), 3) := by decide +kernel
theorem dX6_pass_44 : decode cX6_pass 44 = .ok (.aload_n 0, 1) := by decide +kernel
theorem dX6_pass_45 : decode cX6_pass 45 = .ok (.iload_n 2, 1) := by decide +kernel
theorem dX6_pass_46 : decode cX6_pass 46 = .ok (.invokevirtual 66, 3) := by decide +kernel
theorem dX6_pass_49 : decode cX6_pass 49 = .ok (.ireturn, 1) := by decide +kernel
theorem dX6_cellOf_0 : decode cX6_cellOf 0 = .ok (.iload_n 2, 1) := by decide +kernel
theorem dX6_cellOf_1 : decode cX6_cellOf 1 = .ok (.lookupswitch 58 #[(0, 35), (5, 45), (6, 52)], 35) := by decide +kernel
theorem dX6_cellOf_36 : decode cX6_cellOf 36 = .ok (.aload_n 0, 1) := by decide +kernel
theorem dX6_cellOf_37 : decode cX6_cellOf 37 = .ok (.getfield 7, 3) := by decide +kernel
theorem dX6_cellOf_40 : decode cX6_cellOf 40 = .ok (.bipush 8, 2) := by decide +kernel
theorem dX6_cellOf_42 : decode cX6_cellOf 42 = .ok (.iload_n 1, 1) := by decide +kernel
theorem dX6_cellOf_43 : decode cX6_cellOf 43 = .ok (.iadd, 1) := by decide +kernel
theorem dX6_cellOf_44 : decode cX6_cellOf 44 = .ok (.iaload, 1) := by decide +kernel
theorem dX6_cellOf_45 : decode cX6_cellOf 45 = .ok (.ireturn, 1) := by decide +kernel
theorem dX6_cellOf_46 : decode cX6_cellOf 46 = .ok (.aload_n 0, 1) := by decide +kernel
theorem dX6_cellOf_47 : decode cX6_cellOf 47 = .ok (.getfield 19, 3) := by decide +kernel
theorem dX6_cellOf_50 : decode cX6_cellOf 50 = .ok (.iload_n 1, 1) := by decide +kernel
theorem dX6_cellOf_51 : decode cX6_cellOf 51 = .ok (.iaload, 1) := by decide +kernel
theorem dX6_cellOf_52 : decode cX6_cellOf 52 = .ok (.ireturn, 1) := by decide +kernel
theorem dX6_cellOf_53 : decode cX6_cellOf 53 = .ok (.aload_n 0, 1) := by decide +kernel
theorem dX6_cellOf_54 : decode cX6_cellOf 54 = .ok (.iload_n 1, 1) := by decide +kernel
theorem dX6_cellOf_55 : decode cX6_cellOf 55 = .ok (.invokevirtual 160, 3) := by decide +kernel
theorem dX6_cellOf_58 : decode cX6_cellOf 58 = .ok (.ireturn, 1) := by decide +kernel
theorem dX6_cellOf_59 : decode cX6_cellOf 59 = .ok (.aload_n 0, 1) := by decide +kernel
theorem dX6_cellOf_60 : decode cX6_cellOf 60 = .ok (.iload_n 1, 1) := by decide +kernel
theorem dX6_cellOf_61 : decode cX6_cellOf 61 = .ok (.iload_n 2, 1) := by decide +kernel
theorem dX6_cellOf_62 : decode cX6_cellOf 62 = .ok (.iconst 1, 1) := by decide +kernel
theorem dX6_cellOf_63 : decode cX6_cellOf 63 = .ok (.isub, 1) := by decide +kernel
theorem dX6_cellOf_64 : decode cX6_cellOf 64 = .ok (.invokevirtual 90, 3) := by decide +kernel
theorem dX6_cellOf_67 : decode cX6_cellOf 67 = .ok (.ifCond .eq 7, 3) := by decide +kernel
theorem dX6_cellOf_70 : decode cX6_cellOf 70 = .ok (.iconst 1, 1) := by decide +kernel
theorem dX6_cellOf_71 : decode cX6_cellOf 71 = .ok (.goto 4, 3) := by decide +kernel
theorem dX6_cellOf_74 : decode cX6_cellOf 74 = .ok (.iconst 0, 1) := by decide +kernel
theorem dX6_cellOf_75 : decode cX6_cellOf 75 = .ok (.ireturn, 1) := by decide +kernel
theorem dX6_cell_0 : decode cX6_cell 0 = .ok (.aload_n 0, 1) := by decide +kernel
theorem dX6_cell_1 : decode cX6_cell 1 = .ok (.iload_n 1, 1) := by decide +kernel
theorem dX6_cell_2 : decode cX6_cell 2 = .ok (.invokevirtual 69, 3) := by decide +kernel
theorem dX6_cell_5 : decode cX6_cell 5 = .ok (.ifCond .ne 9, 3) := by decide +kernel
theorem dX6_cell_8 : decode cX6_cell 8 = .ok (.aload_n 0, 1) := by decide +kernel
theorem dX6_cell_9 : decode cX6_cell 9 = .ok (.iconst 1, 1) := by decide +kernel
theorem dX6_cell_10 : decode cX6_cell 10 = .ok (.invokevirtual 59, 3) := by decide +kernel
theorem dX6_cell_13 : decode cX6_cell 13 = .ok (.ireturn, 1) := by decide +kernel
theorem dX6_cell_14 : decode cX6_cell 14 = .ok (.iload_n 2, 1) := by decide +kernel
theorem dX6_cell_15 : decode cX6_cell 15 = .ok (.i2l, 1) := by decide +kernel
theorem dX6_cell_16 : decode cX6_cell 16 = .ok (.lconst 0, 1) := by decide +kernel
theorem dX6_cell_17 : decode cX6_cell 17 = .ok (.ldc2_w 166, 3) := by decide +kernel
theorem dX6_cell_20 : decode cX6_cell 20 = .ok (.invokestatic 49, 3) := by decide +kernel
theorem dX6_cell_23 : decode cX6_cell 23 = .ok (.ifCond .ne 9, 3) := by decide +kernel
theorem dX6_cell_26 : decode cX6_cell 26 = .ok (.aload_n 0, 1) := by decide +kernel
theorem dX6_cell_27 : decode cX6_cell 27 = .ok (.iconst 2, 1) := by decide +kernel
theorem dX6_cell_28 : decode cX6_cell 28 = .ok (.invokevirtual 59, 3) := by decide +kernel
theorem dX6_cell_31 : decode cX6_cell 31 = .ok (.ireturn, 1) := by decide +kernel
theorem dX6_cell_32 : decode cX6_cell 32 = .ok (.aload_n 0, 1) := by decide +kernel
theorem dX6_cell_33 : decode cX6_cell 33 = .ok (.invokevirtual 146, 3) := by decide +kernel
theorem dX6_cell_36 : decode cX6_cell 36 = .ok (.aload_n 0, 1) := by decide +kernel
theorem dX6_cell_37 : decode cX6_cell 37 = .ok (.aload_n 0, 1) := by decide +kernel
theorem dX6_cell_38 : decode cX6_cell 38 = .ok (.iload_n 1, 1) := by decide +kernel
theorem dX6_cell_39 : decode cX6_cell 39 = .ok (.iload_n 2, 1) := by decide +kernel
theorem dX6_cell_40 : decode cX6_cell 40 = .ok (.invokevirtual 168, 3) := by decide +kernel
theorem dX6_cell_43 : decode cX6_cell 43 = .ok (.invokevirtual 66, 3) := by decide +kernel
theorem dX6_cell_46 : decode cX6_cell 46 = .ok (.ireturn, 1) := by decide +kernel
theorem dX6_blockOf_0 : decode cX6_blockOf 0 = .ok (.aload_n 0, 1) := by decide +kernel
theorem dX6_blockOf_1 : decode cX6_blockOf 1 = .ok (.getfield 19, 3) := by decide +kernel
theorem dX6_blockOf_4 : decode cX6_blockOf 4 = .ok (.iload_n 1, 1) := by decide +kernel
theorem dX6_blockOf_5 : decode cX6_blockOf 5 = .ok (.iaload, 1) := by decide +kernel
theorem dX6_blockOf_6 : decode cX6_blockOf 6 = .ok (.istore_n 3, 1) := by decide +kernel
theorem dX6_blockOf_7 : decode cX6_blockOf 7 = .ok (.iload_n 3, 1) := by decide +kernel
theorem dX6_blockOf_8 : decode cX6_blockOf 8 = .ok (.iconst (-1), 1) := by decide +kernel
theorem dX6_blockOf_9 : decode cX6_blockOf 9 = .ok (.if_icmp .ne 5, 3) := by decide +kernel
theorem dX6_blockOf_12 : decode cX6_blockOf 12 = .ok (.iconst (-1), 1) := by decide +kernel
theorem dX6_blockOf_13 : decode cX6_blockOf 13 = .ok (.ireturn, 1) := by decide +kernel
theorem dX6_blockOf_14 : decode cX6_blockOf 14 = .ok (.iload_n 2, 1) := by decide +kernel
theorem dX6_blockOf_15 : decode cX6_blockOf 15 = .ok (.tableswitch 61 0 3 #[29, 31, 31, 47], 29) := by decide +kernel
theorem dX6_blockOf_44 : decode cX6_blockOf 44 = .ok (.iload_n 3, 1) := by decide +kernel
theorem dX6_blockOf_45 : decode cX6_blockOf 45 = .ok (.ireturn, 1) := by decide +kernel
theorem dX6_blockOf_46 : decode cX6_blockOf 46 = .ok (.aload_n 0, 1) := by decide +kernel
theorem dX6_blockOf_47 : decode cX6_blockOf 47 = .ok (.iload_n 3, 1) := by decide +kernel
theorem dX6_blockOf_48 : decode cX6_blockOf 48 = .ok (.iload_n 2, 1) := by decide +kernel
theorem dX6_blockOf_49 : decode cX6_blockOf 49 = .ok (.iconst 2, 1) := by decide +kernel
theorem dX6_blockOf_50 : decode cX6_blockOf 50 = .ok (.if_icmp .ne 7, 3) := by decide +kernel
theorem dX6_blockOf_53 : decode cX6_blockOf 53 = .ok (.iconst 1, 1) := by decide +kernel
theorem dX6_blockOf_54 : decode cX6_blockOf 54 = .ok (.goto 4, 3) := by decide +kernel
theorem dX6_blockOf_57 : decode cX6_blockOf 57 = .ok (.iconst 0, 1) := by decide +kernel
theorem dX6_blockOf_58 : decode cX6_blockOf 58 = .ok (.invokevirtual 142, 3) := by decide +kernel
theorem dX6_blockOf_61 : decode cX6_blockOf 61 = .ok (.ireturn, 1) := by decide +kernel
theorem dX6_blockOf_62 : decode cX6_blockOf 62 = .ok (.aload_n 0, 1) := by decide +kernel
theorem dX6_blockOf_63 : decode cX6_blockOf 63 = .ok (.iload_n 3, 1) := by decide +kernel
theorem dX6_blockOf_64 : decode cX6_blockOf 64 = .ok (.invokevirtual 132, 3) := by decide +kernel
theorem dX6_blockOf_67 : decode cX6_blockOf 67 = .ok (.ifCond .eq 7, 3) := by decide +kernel
theorem dX6_blockOf_70 : decode cX6_blockOf 70 = .ok (.iconst 1, 1) := by decide +kernel
theorem dX6_blockOf_71 : decode cX6_blockOf 71 = .ok (.goto 4, 3) := by decide +kernel
theorem dX6_blockOf_74 : decode cX6_blockOf 74 = .ok (.iconst 0, 1) := by decide +kernel
theorem dX6_blockOf_75 : decode cX6_blockOf 75 = .ok (.ireturn, 1) := by decide +kernel
theorem dX6_blockOf_76 : decode cX6_blockOf 76 = .ok (.aload_n 0, 1) := by decide +kernel
theorem dX6_blockOf_77 : decode cX6_blockOf 77 = .ok (.iload_n 3, 1) := by decide +kernel
theorem dX6_blockOf_78 : decode cX6_blockOf 78 = .ok (.invokevirtual 139, 3) := by decide +kernel
theorem dX6_blockOf_81 : decode cX6_blockOf 81 = .ok (.ireturn, 1) := by decide +kernel
theorem dX6_block_0 : decode cX6_block 0 = .ok (.aload_n 0, 1) := by decide +kernel
theorem dX6_block_1 : decode cX6_block 1 = .ok (.iload_n 1, 1) := by decide +kernel
theorem dX6_block_2 : decode cX6_block 2 = .ok (.invokevirtual 69, 3) := by decide +kernel
theorem dX6_block_5 : decode cX6_block 5 = .ok (.ifCond .ne 9, 3) := by decide +kernel
theorem dX6_block_8 : decode cX6_block 8 = .ok (.aload_n 0, 1) := by decide +kernel
theorem dX6_block_9 : decode cX6_block 9 = .ok (.iconst 1, 1) := by decide +kernel
theorem dX6_block_10 : decode cX6_block 10 = .ok (.invokevirtual 59, 3) := by decide +kernel
theorem dX6_block_13 : decode cX6_block 13 = .ok (.ireturn, 1) := by decide +kernel
theorem dX6_block_14 : decode cX6_block 14 = .ok (.iload_n 2, 1) := by decide +kernel
theorem dX6_block_15 : decode cX6_block 15 = .ok (.i2l, 1) := by decide +kernel
theorem dX6_block_16 : decode cX6_block 16 = .ok (.lconst 0, 1) := by decide +kernel
theorem dX6_block_17 : decode cX6_block 17 = .ok (.ldc2_w 171, 3) := by decide +kernel
theorem dX6_block_20 : decode cX6_block 20 = .ok (.invokestatic 49, 3) := by decide +kernel
theorem dX6_block_23 : decode cX6_block 23 = .ok (.ifCond .ne 9, 3) := by decide +kernel
theorem dX6_block_26 : decode cX6_block 26 = .ok (.aload_n 0, 1) := by decide +kernel
theorem dX6_block_27 : decode cX6_block 27 = .ok (.iconst 2, 1) := by decide +kernel
theorem dX6_block_28 : decode cX6_block 28 = .ok (.invokevirtual 59, 3) := by decide +kernel
theorem dX6_block_31 : decode cX6_block 31 = .ok (.ireturn, 1) := by decide +kernel
theorem dX6_block_32 : decode cX6_block 32 = .ok (.aload_n 0, 1) := by decide +kernel
theorem dX6_block_33 : decode cX6_block 33 = .ok (.invokevirtual 146, 3) := by decide +kernel
theorem dX6_block_36 : decode cX6_block 36 = .ok (.aload_n 0, 1) := by decide +kernel
theorem dX6_block_37 : decode cX6_block 37 = .ok (.aload_n 0, 1) := by decide +kernel
theorem dX6_block_38 : decode cX6_block 38 = .ok (.iload_n 1, 1) := by decide +kernel
theorem dX6_block_39 : decode cX6_block 39 = .ok (.iload_n 2, 1) := by decide +kernel
theorem dX6_block_40 : decode cX6_block 40 = .ok (.invokevirtual 173, 3) := by decide +kernel
theorem dX6_block_43 : decode cX6_block 43 = .ok (.invokevirtual 66, 3) := by decide +kernel
theorem dX6_block_46 : decode cX6_block 46 = .ok (.ireturn, 1) := by decide +kernel
theorem dX6_move_0 : decode cX6_move 0 = .ok (.aload_n 0, 1) := by decide +kernel
theorem dX6_move_1 : decode cX6_move 1 = .ok (.iload_n 1, 1) := by decide +kernel
theorem dX6_move_2 : decode cX6_move 2 = .ok (.invokevirtual 69, 3) := by decide +kernel
theorem dX6_move_5 : decode cX6_move 5 = .ok (.ifCond .eq 7, 3) := by decide +kernel
theorem dX6_move_8 : decode cX6_move 8 = .ok (.iload_n 2, 1) := by decide +kernel
theorem dX6_move_9 : decode cX6_move 9 = .ok (.ifCond .ge 9, 3) := by decide +kernel
theorem dX6_move_12 : decode cX6_move 12 = .ok (.aload_n 0, 1) := by decide +kernel
theorem dX6_move_13 : decode cX6_move 13 = .ok (.iconst 1, 1) := by decide +kernel
theorem dX6_move_14 : decode cX6_move 14 = .ok (.invokevirtual 59, 3) := by decide +kernel
theorem dX6_move_17 : decode cX6_move 17 = .ok (.ireturn, 1) := by decide +kernel
theorem dX6_move_18 : decode cX6_move 18 = .ok (.aload_n 0, 1) := by decide +kernel
theorem dX6_move_19 : decode cX6_move 19 = .ok (.invokevirtual 146, 3) := by decide +kernel
theorem dX6_move_22 : decode cX6_move 22 = .ok (.aload_n 0, 1) := by decide +kernel
theorem dX6_move_23 : decode cX6_move 23 = .ok (.getfield 19, 3) := by decide +kernel
theorem dX6_move_26 : decode cX6_move 26 = .ok (.iload_n 1, 1) := by decide +kernel
theorem dX6_move_27 : decode cX6_move 27 = .ok (.iaload, 1) := by decide +kernel
theorem dX6_move_28 : decode cX6_move 28 = .ok (.iconst (-1), 1) := by decide +kernel
theorem dX6_move_29 : decode cX6_move 29 = .ok (.if_icmp .ne 7, 3) := by decide +kernel
theorem dX6_move_32 : decode cX6_move 32 = .ok (.iconst (-1), 1) := by decide +kernel
theorem dX6_move_33 : decode cX6_move 33 = .ok (.goto 13, 3) := by decide +kernel
theorem dX6_move_36 : decode cX6_move 36 = .ok (.aload_n 0, 1) := by decide +kernel
theorem dX6_move_37 : decode cX6_move 37 = .ok (.aload_n 0, 1) := by decide +kernel
theorem dX6_move_38 : decode cX6_move 38 = .ok (.getfield 19, 3) := by decide +kernel
theorem dX6_move_41 : decode cX6_move 41 = .ok (.iload_n 1, 1) := by decide +kernel
theorem dX6_move_42 : decode cX6_move 42 = .ok (.iaload, 1) := by decide +kernel
theorem dX6_move_43 : decode cX6_move 43 = .ok (.invokevirtual 139, 3) := by decide +kernel
theorem dX6_move_46 : decode cX6_move 46 = .ok (.istore_n 3, 1) := by decide +kernel
theorem dX6_move_47 : decode cX6_move 47 = .ok (.bipush 112, 2) := by decide +kernel
theorem dX6_move_49 : decode cX6_move 49 = .ok (.istore 4, 2) := by decide +kernel
theorem dX6_move_51 : decode cX6_move 51 = .ok (.iconst (-1), 1) := by decide +kernel
theorem dX6_move_52 : decode cX6_move 52 = .ok (.istore 5, 2) := by decide +kernel
theorem dX6_move_54 : decode cX6_move 54 = .ok (.iconst 0, 1) := by decide +kernel
theorem dX6_move_55 : decode cX6_move 55 = .ok (.istore 6, 2) := by decide +kernel
theorem dX6_move_57 : decode cX6_move 57 = .ok (.iload 6, 2) := by decide +kernel
theorem dX6_move_59 : decode cX6_move 59 = .ok (.iload_n 2, 1) := by decide +kernel
theorem dX6_move_60 : decode cX6_move 60 = .ok (.if_icmp .gt 72, 3) := by decide +kernel
theorem dX6_move_63 : decode cX6_move 63 = .ok (.iload 6, 2) := by decide +kernel
theorem dX6_move_65 : decode cX6_move 65 = .ok (.iload_n 3, 1) := by decide +kernel
theorem dX6_move_66 : decode cX6_move 66 = .ok (.if_icmp .ge 66, 3) := by decide +kernel
theorem dX6_move_69 : decode cX6_move 69 = .ok (.iconst 0, 1) := by decide +kernel
theorem dX6_move_70 : decode cX6_move 70 = .ok (.istore 5, 2) := by decide +kernel
theorem dX6_move_72 : decode cX6_move 72 = .ok (.iload 4, 2) := by decide +kernel
theorem dX6_move_74 : decode cX6_move 74 = .ok (.iload 5, 2) := by decide +kernel
theorem dX6_move_76 : decode cX6_move 76 = .ok (.invokestatic 127, 3) := by decide +kernel
theorem dX6_move_79 : decode cX6_move 79 = .ok (.i2l, 1) := by decide +kernel
theorem dX6_move_80 : decode cX6_move 80 = .ok (.lconst 0, 1) := by decide +kernel
theorem dX6_move_81 : decode cX6_move 81 = .ok (.ldc2_w 130, 3) := by decide +kernel
theorem dX6_move_84 : decode cX6_move 84 = .ok (.invokestatic 49, 3) := by decide +kernel
theorem dX6_move_87 : decode cX6_move 87 = .ok (.ifCond .eq 24, 3) := by decide +kernel
theorem dX6_move_90 : decode cX6_move 90 = .ok (.aload_n 0, 1) := by decide +kernel
theorem dX6_move_91 : decode cX6_move 91 = .ok (.getfield 22, 3) := by decide +kernel
theorem dX6_move_94 : decode cX6_move 94 = .ok (.iload 4, 2) := by decide +kernel
theorem dX6_move_96 : decode cX6_move 96 = .ok (.iload 5, 2) := by decide +kernel
theorem dX6_move_98 : decode cX6_move 98 = .ok (.invokestatic 127, 3) := by decide +kernel
theorem dX6_move_101 : decode cX6_move 101 = .ok (.iaload, 1) := by decide +kernel
theorem dX6_move_102 : decode cX6_move 102 = .ok (.iload_n 3, 1) := by decide +kernel
theorem dX6_move_103 : decode cX6_move 103 = .ok (.iload 6, 2) := by decide +kernel
theorem dX6_move_105 : decode cX6_move 105 = .ok (.isub, 1) := by decide +kernel
theorem dX6_move_106 : decode cX6_move 106 = .ok (.iconst 1, 1) := by decide +kernel
theorem dX6_move_107 : decode cX6_move 107 = .ok (.isub, 1) := by decide +kernel
theorem dX6_move_108 : decode cX6_move 108 = .ok (.if_icmp .eq 9, 3) := by decide +kernel
theorem dX6_move_111 : decode cX6_move 111 = .ok (.iinc 5 1, 3) := by decide +kernel
theorem dX6_move_114 : decode cX6_move 114 = .ok (.goto (-42), 3) := by decide +kernel
theorem dX6_move_117 : decode cX6_move 117 = .ok (.iload 4, 2) := by decide +kernel
theorem dX6_move_119 : decode cX6_move 119 = .ok (.iload 5, 2) := by decide +kernel
theorem dX6_move_121 : decode cX6_move 121 = .ok (.invokestatic 127, 3) := by decide +kernel
theorem dX6_move_124 : decode cX6_move 124 = .ok (.istore 4, 2) := by decide +kernel
theorem dX6_move_126 : decode cX6_move 126 = .ok (.iinc 6 1, 3) := by decide +kernel
theorem dX6_move_129 : decode cX6_move 129 = .ok (.goto (-72), 3) := by decide +kernel
theorem dX6_move_132 : decode cX6_move 132 = .ok (.aload_n 0, 1) := by decide +kernel
theorem dX6_move_133 : decode cX6_move 133 = .ok (.iload_n 2, 1) := by decide +kernel
theorem dX6_move_134 : decode cX6_move 134 = .ok (.iload_n 3, 1) := by decide +kernel
theorem dX6_move_135 : decode cX6_move 135 = .ok (.if_icmp .ge 8, 3) := by decide +kernel
theorem dX6_move_138 : decode cX6_move 138 = .ok (.iload 5, 2) := by decide +kernel
theorem dX6_move_140 : decode cX6_move 140 = .ok (.goto 4, 3) := by decide +kernel
theorem dX6_move_143 : decode cX6_move 143 = .ok (.iconst (-1), 1) := by decide +kernel
theorem dX6_move_144 : decode cX6_move 144 = .ok (.invokevirtual 66, 3) := by decide +kernel
theorem dX6_move_147 : decode cX6_move 147 = .ok (.ireturn, 1) := by decide +kernel
theorem dX6_blocks_0 : decode cX6_blocks 0 = .ok (.iconst 0, 1) := by decide +kernel
theorem dX6_blocks_1 : decode cX6_blocks 1 = .ok (.istore_n 2, 1) := by decide +kernel
theorem dX6_blocks_2 : decode cX6_blocks 2 = .ok (.aload_n 0, 1) := by decide +kernel
theorem dX6_blocks_3 : decode cX6_blocks 3 = .ok (.invokevirtual 146, 3) := by decide +kernel
theorem dX6_blocks_6 : decode cX6_blocks 6 = .ok (.iconst 0, 1) := by decide +kernel
theorem dX6_blocks_7 : decode cX6_blocks 7 = .ok (.istore_n 3, 1) := by decide +kernel
theorem dX6_blocks_8 : decode cX6_blocks 8 = .ok (.iload_n 3, 1) := by decide +kernel
theorem dX6_blocks_9 : decode cX6_blocks 9 = .ok (.aload_n 0, 1) := by decide +kernel
theorem dX6_blocks_10 : decode cX6_blocks 10 = .ok (.invokevirtual 45, 3) := by decide +kernel
theorem dX6_blocks_13 : decode cX6_blocks 13 = .ok (.if_icmp .ge 65, 3) := by decide +kernel
theorem dX6_blocks_16 : decode cX6_blocks 16 = .ok (.aload_n 0, 1) := by decide +kernel
theorem dX6_blocks_17 : decode cX6_blocks 17 = .ok (.getfield 19, 3) := by decide +kernel
theorem dX6_blocks_20 : decode cX6_blocks 20 = .ok (.iload_n 3, 1) := by decide +kernel
theorem dX6_blocks_21 : decode cX6_blocks 21 = .ok (.iaload, 1) := by decide +kernel
theorem dX6_blocks_22 : decode cX6_blocks 22 = .ok (.iload_n 3, 1) := by decide +kernel
theorem dX6_blocks_23 : decode cX6_blocks 23 = .ok (.if_icmp .ne 19, 3) := by decide +kernel
theorem dX6_blocks_26 : decode cX6_blocks 26 = .ok (.iload_n 1, 1) := by decide +kernel
theorem dX6_blocks_27 : decode cX6_blocks 27 = .ok (.ifCond .eq 11, 3) := by decide +kernel
theorem dX6_blocks_30 : decode cX6_blocks 30 = .ok (.aload_n 0, 1) := by decide +kernel
theorem dX6_blocks_31 : decode cX6_blocks 31 = .ok (.iload_n 3, 1) := by decide +kernel
theorem dX6_blocks_32 : decode cX6_blocks 32 = .ok (.invokevirtual 132, 3) := by decide +kernel
theorem dX6_blocks_35 : decode cX6_blocks 35 = .ok (.ifCond .ne 7, 3) := by decide +kernel
theorem dX6_blocks_38 : decode cX6_blocks 38 = .ok (.iconst 1, 1) := by decide +kernel
theorem dX6_blocks_39 : decode cX6_blocks 39 = .ok (.goto 4, 3) := by decide +kernel
theorem dX6_blocks_42 : decode cX6_blocks 42 = .ok (.iconst 0, 1) := by decide +kernel
theorem dX6_blocks_43 : decode cX6_blocks 43 = .ok (.istore 4, 2) := by decide +kernel
theorem dX6_blocks_45 : decode cX6_blocks 45 = .ok (.iload_n 2, 1) := by decide +kernel
theorem dX6_blocks_46 : decode cX6_blocks 46 = .ok (.iload 4, 2) := by decide +kernel
theorem dX6_blocks_48 : decode cX6_blocks 48 = .ok (.ifCond .eq 21, 3) := by decide +kernel
theorem dX6_blocks_51 : decode cX6_blocks 51 = .ok (.iload_n 1, 1) := by decide +kernel
theorem dX6_blocks_52 : decode cX6_blocks 52 = .ok (.iconst 2, 1) := by decide +kernel
theorem dX6_blocks_53 : decode cX6_blocks 53 = .ok (.if_icmp .lt 12, 3) := by decide +kernel
theorem dX6_blocks_56 : decode cX6_blocks 56 = .ok (.aload_n 0, 1) := by decide +kernel
theorem dX6_blocks_57 : decode cX6_blocks 57 = .ok (.iload_n 3, 1) := by decide +kernel
theorem dX6_blocks_58 : decode cX6_blocks 58 = .ok (.invokevirtual 139, 3) := by decide +kernel
theorem dX6_blocks_61 : decode cX6_blocks 61 = .ok (.iconst (-1), 1) := by decide +kernel
theorem dX6_blocks_62 : decode cX6_blocks 62 = .ok (.if_icmp .ne 7, 3) := by decide +kernel
theorem dX6_blocks_65 : decode cX6_blocks 65 = .ok (.iconst 1, 1) := by decide +kernel
theorem dX6_blocks_66 : decode cX6_blocks 66 = .ok (.goto 4, 3) := by decide +kernel
theorem dX6_blocks_69 : decode cX6_blocks 69 = .ok (.iconst 0, 1) := by decide +kernel
theorem dX6_blocks_70 : decode cX6_blocks 70 = .ok (.iadd, 1) := by decide +kernel
theorem dX6_blocks_71 : decode cX6_blocks 71 = .ok (.istore_n 2, 1) := by decide +kernel
theorem dX6_blocks_72 : decode cX6_blocks 72 = .ok (.iinc 3 1, 3) := by decide +kernel
theorem dX6_blocks_75 : decode cX6_blocks 75 = .ok (.goto (-67), 3) := by decide +kernel
theorem dX6_blocks_78 : decode cX6_blocks 78 = .ok (.iload_n 2, 1) := by decide +kernel
theorem dX6_blocks_79 : decode cX6_blocks 79 = .ok (.ireturn, 1) := by decide +kernel
theorem dX6_sum_0 : decode cX6_sum 0 = .ok (.iconst 0, 1) := by decide +kernel
theorem dX6_sum_1 : decode cX6_sum 1 = .ok (.istore_n 2, 1) := by decide +kernel
theorem dX6_sum_2 : decode cX6_sum 2 = .ok (.iconst 0, 1) := by decide +kernel
theorem dX6_sum_3 : decode cX6_sum 3 = .ok (.istore_n 3, 1) := by decide +kernel
theorem dX6_sum_4 : decode cX6_sum 4 = .ok (.iload_n 3, 1) := by decide +kernel
theorem dX6_sum_5 : decode cX6_sum 5 = .ok (.aload_n 0, 1) := by decide +kernel
theorem dX6_sum_6 : decode cX6_sum 6 = .ok (.invokevirtual 45, 3) := by decide +kernel
theorem dX6_sum_9 : decode cX6_sum 9 = .ok (.if_icmp .ge 80, 3) := by decide +kernel
theorem dX6_sum_12 : decode cX6_sum 12 = .ok (.aload_n 0, 1) := by decide +kernel
theorem dX6_sum_13 : decode cX6_sum 13 = .ok (.getfield 7, 3) := by decide +kernel
theorem dX6_sum_16 : decode cX6_sum 16 = .ok (.bipush 57, 2) := by decide +kernel
theorem dX6_sum_18 : decode cX6_sum 18 = .ok (.iload_n 3, 1) := by decide +kernel
theorem dX6_sum_19 : decode cX6_sum 19 = .ok (.iadd, 1) := by decide +kernel
theorem dX6_sum_20 : decode cX6_sum 20 = .ok (.iaload, 1) := by decide +kernel
theorem dX6_sum_21 : decode cX6_sum 21 = .ok (.istore 4, 2) := by decide +kernel
theorem dX6_sum_23 : decode cX6_sum 23 = .ok (.iload_n 2, 1) := by decide +kernel
theorem dX6_sum_24 : decode cX6_sum 24 = .ok (.iload_n 1, 1) := by decide +kernel
theorem dX6_sum_25 : decode cX6_sum 25 = .ok (.bipush 10, 2) := by decide +kernel
theorem dX6_sum_27 : decode cX6_sum 27 = .ok (.if_icmp .ne 15, 3) := by decide +kernel
theorem dX6_sum_30 : decode cX6_sum 30 = .ok (.aload_n 0, 1) := by decide +kernel
theorem dX6_sum_31 : decode cX6_sum 31 = .ok (.getfield 7, 3) := by decide +kernel
theorem dX6_sum_34 : decode cX6_sum 34 = .ok (.bipush 8, 2) := by decide +kernel
theorem dX6_sum_36 : decode cX6_sum 36 = .ok (.iload_n 3, 1) := by decide +kernel
theorem dX6_sum_37 : decode cX6_sum 37 = .ok (.iadd, 1) := by decide +kernel
theorem dX6_sum_38 : decode cX6_sum 38 = .ok (.iaload, 1) := by decide +kernel
theorem dX6_sum_39 : decode cX6_sum 39 = .ok (.goto 42, 3) := by decide +kernel
theorem dX6_sum_42 : decode cX6_sum 42 = .ok (.iload_n 1, 1) := by decide +kernel
theorem dX6_sum_43 : decode cX6_sum 43 = .ok (.iconst 2, 1) := by decide +kernel
theorem dX6_sum_44 : decode cX6_sum 44 = .ok (.if_icmp .ne 19, 3) := by decide +kernel
theorem dX6_sum_47 : decode cX6_sum 47 = .ok (.aload_n 0, 1) := by decide +kernel
theorem dX6_sum_48 : decode cX6_sum 48 = .ok (.iload_n 3, 1) := by decide +kernel
theorem dX6_sum_49 : decode cX6_sum 49 = .ok (.invokevirtual 112, 3) := by decide +kernel
theorem dX6_sum_52 : decode cX6_sum 52 = .ok (.ifCond .eq 7, 3) := by decide +kernel
theorem dX6_sum_55 : decode cX6_sum 55 = .ok (.iconst 1, 1) := by decide +kernel
theorem dX6_sum_56 : decode cX6_sum 56 = .ok (.goto 25, 3) := by decide +kernel
theorem dX6_sum_59 : decode cX6_sum 59 = .ok (.iconst 0, 1) := by decide +kernel
theorem dX6_sum_60 : decode cX6_sum 60 = .ok (.goto 21, 3) := by decide +kernel
theorem dX6_sum_63 : decode cX6_sum 63 = .ok (.iload 4, 2) := by decide +kernel
theorem dX6_sum_65 : decode cX6_sum 65 = .ok (.iconst 1, 1) := by decide +kernel
theorem dX6_sum_66 : decode cX6_sum 66 = .ok (.iand, 1) := by decide +kernel
theorem dX6_sum_67 : decode cX6_sum 67 = .ok (.iload 4, 2) := by decide +kernel
theorem dX6_sum_69 : decode cX6_sum 69 = .ok (.iconst 1, 1) := by decide +kernel
theorem dX6_sum_70 : decode cX6_sum 70 = .ok (.ishr, 1) := by decide +kernel
theorem dX6_sum_71 : decode cX6_sum 71 = .ok (.iconst 1, 1) := by decide +kernel
theorem dX6_sum_72 : decode cX6_sum 72 = .ok (.iand, 1) := by decide +kernel
theorem dX6_sum_73 : decode cX6_sum 73 = .ok (.iadd, 1) := by decide +kernel
theorem dX6_sum_74 : decode cX6_sum 74 = .ok (.iload 4, 2) := by decide +kernel
theorem dX6_sum_76 : decode cX6_sum 76 = .ok (.iconst 2, 1) := by decide +kernel
theorem dX6_sum_77 : decode cX6_sum 77 = .ok (.ishr, 1) := by decide +kernel
theorem dX6_sum_78 : decode cX6_sum 78 = .ok (.iconst 1, 1) := by decide +kernel
theorem dX6_sum_79 : decode cX6_sum 79 = .ok (.iand, 1) := by decide +kernel
theorem dX6_sum_80 : decode cX6_sum 80 = .ok (.iadd, 1) := by decide +kernel
theorem dX6_sum_81 : decode cX6_sum 81 = .ok (.iadd, 1) := by decide +kernel
theorem dX6_sum_82 : decode cX6_sum 82 = .ok (.istore_n 2, 1) := by decide +kernel
theorem dX6_sum_83 : decode cX6_sum 83 = .ok (.iinc 3 1, 3) := by decide +kernel
theorem dX6_sum_86 : decode cX6_sum 86 = .ok (.goto (-82), 3) := by decide +kernel
theorem dX6_sum_89 : decode cX6_sum 89 = .ok (.iload_n 2, 1) := by decide +kernel
theorem dX6_sum_90 : decode cX6_sum 90 = .ok (.ireturn, 1) := by decide +kernel
theorem dX6_valueOf_0 : decode cX6_valueOf 0 = .ok (.iload_n 1, 1) := by decide +kernel
theorem dX6_valueOf_1 : decode cX6_valueOf 1 = .ok (.tableswitch 130 0 13 #[71, 71, 130, 78, 78, 78, 130, 86, 93, 100, 130, 107, 114, 122], 71) := by decide +kernel
theorem dX6_valueOf_72 : decode cX6_valueOf 72 = .ok (.aload_n 0, 1) := by decide +kernel
theorem dX6_valueOf_73 : decode cX6_valueOf 73 = .ok (.getfield 7, 3) := by decide +kernel
theorem dX6_valueOf_76 : decode cX6_valueOf 76 = .ok (.iload_n 1, 1) := by decide +kernel
theorem dX6_valueOf_77 : decode cX6_valueOf 77 = .ok (.iaload, 1) := by decide +kernel
theorem dX6_valueOf_78 : decode cX6_valueOf 78 = .ok (.ireturn, 1) := by decide +kernel
theorem dX6_valueOf_79 : decode cX6_valueOf 79 = .ok (.aload_n 0, 1) := by decide +kernel
theorem dX6_valueOf_80 : decode cX6_valueOf 80 = .ok (.iload_n 1, 1) := by decide +kernel
theorem dX6_valueOf_81 : decode cX6_valueOf 81 = .ok (.iconst 3, 1) := by decide +kernel
theorem dX6_valueOf_82 : decode cX6_valueOf 82 = .ok (.isub, 1) := by decide +kernel
theorem dX6_valueOf_83 : decode cX6_valueOf 83 = .ok (.invokevirtual 176, 3) := by decide +kernel
theorem dX6_valueOf_86 : decode cX6_valueOf 86 = .ok (.ireturn, 1) := by decide +kernel
theorem dX6_valueOf_87 : decode cX6_valueOf 87 = .ok (.aload_n 0, 1) := by decide +kernel
theorem dX6_valueOf_88 : decode cX6_valueOf 88 = .ok (.getfield 7, 3) := by decide +kernel
theorem dX6_valueOf_91 : decode cX6_valueOf 91 = .ok (.iconst 2, 1) := by decide +kernel
theorem dX6_valueOf_92 : decode cX6_valueOf 92 = .ok (.iaload, 1) := by decide +kernel
theorem dX6_valueOf_93 : decode cX6_valueOf 93 = .ok (.ireturn, 1) := by decide +kernel
theorem dX6_valueOf_94 : decode cX6_valueOf 94 = .ok (.aload_n 0, 1) := by decide +kernel
theorem dX6_valueOf_95 : decode cX6_valueOf 95 = .ok (.getfield 7, 3) := by decide +kernel
theorem dX6_valueOf_98 : decode cX6_valueOf 98 = .ok (.iconst 3, 1) := by decide +kernel
theorem dX6_valueOf_99 : decode cX6_valueOf 99 = .ok (.iaload, 1) := by decide +kernel
theorem dX6_valueOf_100 : decode cX6_valueOf 100 = .ok (.ireturn, 1) := by decide +kernel
theorem dX6_valueOf_101 : decode cX6_valueOf 101 = .ok (.aload_n 0, 1) := by decide +kernel
theorem dX6_valueOf_102 : decode cX6_valueOf 102 = .ok (.getfield 7, 3) := by decide +kernel
theorem dX6_valueOf_105 : decode cX6_valueOf 105 = .ok (.iconst 4, 1) := by decide +kernel
theorem dX6_valueOf_106 : decode cX6_valueOf 106 = .ok (.iaload, 1) := by decide +kernel
theorem dX6_valueOf_107 : decode cX6_valueOf 107 = .ok (.ireturn, 1) := by decide +kernel
theorem dX6_valueOf_108 : decode cX6_valueOf 108 = .ok (.aload_n 0, 1) := by decide +kernel
theorem dX6_valueOf_109 : decode cX6_valueOf 109 = .ok (.getfield 7, 3) := by decide +kernel
theorem dX6_valueOf_112 : decode cX6_valueOf 112 = .ok (.iconst 5, 1) := by decide +kernel
theorem dX6_valueOf_113 : decode cX6_valueOf 113 = .ok (.iaload, 1) := by decide +kernel
theorem dX6_valueOf_114 : decode cX6_valueOf 114 = .ok (.ireturn, 1) := by decide +kernel
theorem dX6_valueOf_115 : decode cX6_valueOf 115 = .ok (.aload_n 0, 1) := by decide +kernel
theorem dX6_valueOf_116 : decode cX6_valueOf 116 = .ok (.getfield 7, 3) := by decide +kernel
theorem dX6_valueOf_119 : decode cX6_valueOf 119 = .ok (.bipush 6, 2) := by decide +kernel
theorem dX6_valueOf_121 : decode cX6_valueOf 121 = .ok (.iaload, 1) := by decide +kernel
theorem dX6_valueOf_122 : decode cX6_valueOf 122 = .ok (.ireturn, 1) := by decide +kernel
theorem dX6_valueOf_123 : decode cX6_valueOf 123 = .ok (.aload_n 0, 1) := by decide +kernel
theorem dX6_valueOf_124 : decode cX6_valueOf 124 = .ok (.getfield 7, 3) := by decide +kernel
theorem dX6_valueOf_127 : decode cX6_valueOf 127 = .ok (.bipush 7, 2) := by decide +kernel
theorem dX6_valueOf_129 : decode cX6_valueOf 129 = .ok (.iaload, 1) := by decide +kernel
theorem dX6_valueOf_130 : decode cX6_valueOf 130 = .ok (.ireturn, 1) := by decide +kernel
theorem dX6_valueOf_131 : decode cX6_valueOf 131 = .ok (.aload_n 0, 1) := by decide +kernel
theorem dX6_valueOf_132 : decode cX6_valueOf 132 = .ok (.iload_n 1, 1) := by decide +kernel
theorem dX6_valueOf_133 : decode cX6_valueOf 133 = .ok (.invokevirtual 179, 3) := by decide +kernel
theorem dX6_valueOf_136 : decode cX6_valueOf 136 = .ok (.ireturn, 1) := by decide +kernel
theorem dX6_value_0 : decode cX6_value 0 = .ok (.iload_n 1, 1) := by decide +kernel
theorem dX6_value_1 : decode cX6_value 1 = .ok (.i2l, 1) := by decide +kernel
theorem dX6_value_2 : decode cX6_value 2 = .ok (.lconst 0, 1) := by decide +kernel
theorem dX6_value_3 : decode cX6_value 3 = .ok (.ldc2_w 182, 3) := by decide +kernel
theorem dX6_value_6 : decode cX6_value 6 = .ok (.invokestatic 49, 3) := by decide +kernel
theorem dX6_value_9 : decode cX6_value 9 = .ok (.ifCond .eq 15, 3) := by decide +kernel
theorem dX6_value_12 : decode cX6_value 12 = .ok (.aload_n 0, 1) := by decide +kernel
theorem dX6_value_13 : decode cX6_value 13 = .ok (.aload_n 0, 1) := by decide +kernel
theorem dX6_value_14 : decode cX6_value 14 = .ok (.iload_n 1, 1) := by decide +kernel
theorem dX6_value_15 : decode cX6_value 15 = .ok (.invokevirtual 184, 3) := by decide +kernel
theorem dX6_value_18 : decode cX6_value 18 = .ok (.invokevirtual 66, 3) := by decide +kernel
theorem dX6_value_21 : decode cX6_value 21 = .ok (.goto 8, 3) := by decide +kernel
theorem dX6_value_24 : decode cX6_value 24 = .ok (.aload_n 0, 1) := by decide +kernel
theorem dX6_value_25 : decode cX6_value 25 = .ok (.iconst 1, 1) := by decide +kernel
theorem dX6_value_26 : decode cX6_value 26 = .ok (.invokevirtual 59, 3) := by decide +kernel
theorem dX6_value_29 : decode cX6_value 29 = .ok (.ireturn, 1) := by decide +kernel
theorem dX6_kept_0 : decode cX6_kept 0 = .ok (.aload_n 0, 1) := by decide +kernel
theorem dX6_kept_1 : decode cX6_kept 1 = .ok (.getfield 7, 3) := by decide +kernel
theorem dX6_kept_4 : decode cX6_kept 4 = .ok (.bipush 7, 2) := by decide +kernel
theorem dX6_kept_6 : decode cX6_kept 6 = .ok (.iaload, 1) := by decide +kernel
theorem dX6_kept_7 : decode cX6_kept 7 = .ok (.bipush 40, 2) := by decide +kernel
theorem dX6_kept_9 : decode cX6_kept 9 = .ok (.if_icmp .ge 13, 3) := by decide +kernel
theorem dX6_kept_12 : decode cX6_kept 12 = .ok (.aload_n 0, 1) := by decide +kernel
theorem dX6_kept_13 : decode cX6_kept 13 = .ok (.getfield 7, 3) := by decide +kernel
theorem dX6_kept_16 : decode cX6_kept 16 = .ok (.bipush 7, 2) := by decide +kernel
theorem dX6_kept_18 : decode cX6_kept 18 = .ok (.iaload, 1) := by decide +kernel
theorem dX6_kept_19 : decode cX6_kept 19 = .ok (.goto 5, 3) := by decide +kernel
theorem dX6_kept_22 : decode cX6_kept 22 = .ok (.bipush 40, 2) := by decide +kernel
theorem dX6_kept_24 : decode cX6_kept 24 = .ok (.ireturn, 1) := by decide +kernel
theorem dX6_taken_0 : decode cX6_taken 0 = .ok (.iload_n 1, 1) := by decide +kernel
theorem dX6_taken_1 : decode cX6_taken 1 = .ok (.i2l, 1) := by decide +kernel
theorem dX6_taken_2 : decode cX6_taken 2 = .ok (.lconst 0, 1) := by decide +kernel
theorem dX6_taken_3 : decode cX6_taken 3 = .ok (.aload_n 0, 1) := by decide +kernel
theorem dX6_taken_4 : decode cX6_taken 4 = .ok (.invokevirtual 187, 3) := by decide +kernel
theorem dX6_taken_7 : decode cX6_taken 7 = .ok (.i2l, 1) := by decide +kernel
theorem dX6_taken_8 : decode cX6_taken 8 = .ok (.lconst 1, 1) := by decide +kernel
theorem dX6_taken_9 : decode cX6_taken 9 = .ok (.lsub, 1) := by decide +kernel
theorem dX6_taken_10 : decode cX6_taken 10 = .ok (.invokestatic 49, 3) := by decide +kernel
theorem dX6_taken_13 : decode cX6_taken 13 = .ok (.ifCond .ne 9, 3) := by decide +kernel
theorem dX6_taken_16 : decode cX6_taken 16 = .ok (.aload_n 0, 1) := by decide +kernel
theorem dX6_taken_17 : decode cX6_taken 17 = .ok (.iconst 1, 1) := by decide +kernel
theorem dX6_taken_18 : decode cX6_taken 18 = .ok (.invokevirtual 59, 3) := by decide +kernel
theorem dX6_taken_21 : decode cX6_taken 21 = .ok (.ireturn, 1) := by decide +kernel
theorem dX6_taken_22 : decode cX6_taken 22 = .ok (.iload_n 2, 1) := by decide +kernel
theorem dX6_taken_23 : decode cX6_taken 23 = .ok (.i2l, 1) := by decide +kernel
theorem dX6_taken_24 : decode cX6_taken 24 = .ok (.lconst 0, 1) := by decide +kernel
theorem dX6_taken_25 : decode cX6_taken 25 = .ok (.ldc2_w 53, 3) := by decide +kernel
theorem dX6_taken_28 : decode cX6_taken 28 = .ok (.invokestatic 49, 3) := by decide +kernel
theorem dX6_taken_31 : decode cX6_taken 31 = .ok (.ifCond .eq 23, 3) := by decide +kernel
theorem dX6_taken_34 : decode cX6_taken 34 = .ok (.aload_n 0, 1) := by decide +kernel
theorem dX6_taken_35 : decode cX6_taken 35 = .ok (.aload_n 0, 1) := by decide +kernel
theorem dX6_taken_36 : decode cX6_taken 36 = .ok (.getfield 7, 3) := by decide +kernel
theorem dX6_taken_39 : decode cX6_taken 39 = .ok (.bipush 106, 2) := by decide +kernel
theorem dX6_taken_41 : decode cX6_taken 41 = .ok (.iconst 3, 1) := by decide +kernel
theorem dX6_taken_42 : decode cX6_taken 42 = .ok (.iload_n 1, 1) := by decide +kernel
theorem dX6_taken_43 : decode cX6_taken 43 = .ok (.imul, 1) := by decide +kernel
theorem dX6_taken_44 : decode cX6_taken 44 = .ok (.iadd, 1) := by decide +kernel
theorem dX6_taken_45 : decode cX6_taken 45 = .ok (.iload_n 2, 1) := by decide +kernel
theorem dX6_taken_46 : decode cX6_taken 46 = .ok (.iadd, 1) := by decide +kernel
theorem dX6_taken_47 : decode cX6_taken 47 = .ok (.iaload, 1) := by decide +kernel
theorem dX6_taken_48 : decode cX6_taken 48 = .ok (.invokevirtual 66, 3) := by decide +kernel
theorem dX6_taken_51 : decode cX6_taken 51 = .ok (.goto 8, 3) := by decide +kernel
theorem dX6_taken_54 : decode cX6_taken 54 = .ok (.aload_n 0, 1) := by decide +kernel
theorem dX6_taken_55 : decode cX6_taken 55 = .ok (.iconst 2, 1) := by decide +kernel
theorem dX6_taken_56 : decode cX6_taken 56 = .ok (.invokevirtual 59, 3) := by decide +kernel
theorem dX6_taken_59 : decode cX6_taken 59 = .ok (.ireturn, 1) := by decide +kernel
theorem dX6_takableNow_0 : decode cX6_takableNow 0 = .ok (.aload_n 0, 1) := by decide +kernel
theorem dX6_takableNow_1 : decode cX6_takableNow 1 = .ok (.invokevirtual 106, 3) := by decide +kernel
theorem dX6_takableNow_4 : decode cX6_takableNow 4 = .ok (.aload_n 0, 1) := by decide +kernel
theorem dX6_takableNow_5 : decode cX6_takableNow 5 = .ok (.invokevirtual 155, 3) := by decide +kernel
theorem dX6_takableNow_8 : decode cX6_takableNow 8 = .ok (.istore_n 1, 1) := by decide +kernel
theorem dX6_takableNow_9 : decode cX6_takableNow 9 = .ok (.aload_n 0, 1) := by decide +kernel
theorem dX6_takableNow_10 : decode cX6_takableNow 10 = .ok (.invokevirtual 109, 3) := by decide +kernel
theorem dX6_takableNow_13 : decode cX6_takableNow 13 = .ok (.iload_n 1, 1) := by decide +kernel
theorem dX6_takableNow_14 : decode cX6_takableNow 14 = .ok (.ireturn, 1) := by decide +kernel
theorem dX6_takable_0 : decode cX6_takable 0 = .ok (.aload_n 0, 1) := by decide +kernel
theorem dX6_takable_1 : decode cX6_takable 1 = .ok (.aload_n 0, 1) := by decide +kernel
theorem dX6_takable_2 : decode cX6_takable 2 = .ok (.invokevirtual 190, 3) := by decide +kernel
theorem dX6_takable_5 : decode cX6_takable 5 = .ok (.invokevirtual 66, 3) := by decide +kernel
theorem dX6_takable_8 : decode cX6_takable 8 = .ok (.ireturn, 1) := by decide +kernel
theorem dX6_leftStranded_0 : decode cX6_leftStranded 0 = .ok (.aload_n 0, 1) := by decide +kernel
theorem dX6_leftStranded_1 : decode cX6_leftStranded 1 = .ok (.invokevirtual 106, 3) := by decide +kernel
theorem dX6_leftStranded_4 : decode cX6_leftStranded 4 = .ok (.aload_n 0, 1) := by decide +kernel
theorem dX6_leftStranded_5 : decode cX6_leftStranded 5 = .ok (.invokevirtual 155, 3) := by decide +kernel
theorem dX6_leftStranded_8 : decode cX6_leftStranded 8 = .ok (.istore_n 1, 1) := by decide +kernel
theorem dX6_leftStranded_9 : decode cX6_leftStranded 9 = .ok (.aload_n 0, 1) := by decide +kernel
theorem dX6_leftStranded_10 : decode cX6_leftStranded 10 = .ok (.iconst 1, 1) := by decide +kernel
theorem dX6_leftStranded_11 : decode cX6_leftStranded 11 = .ok (.invokevirtual 176, 3) := by decide +kernel
theorem dX6_leftStranded_14 : decode cX6_leftStranded 14 = .ok (.istore_n 2, 1) := by decide +kernel
theorem dX6_leftStranded_15 : decode cX6_leftStranded 15 = .ok (.aload_n 0, 1) := by decide +kernel
theorem dX6_leftStranded_16 : decode cX6_leftStranded 16 = .ok (.invokevirtual 109, 3) := by decide +kernel
theorem dX6_leftStranded_19 : decode cX6_leftStranded 19 = .ok (.aload_n 0, 1) := by decide +kernel
theorem dX6_leftStranded_20 : decode cX6_leftStranded 20 = .ok (.iload_n 2, 1) := by decide +kernel
theorem dX6_leftStranded_21 : decode cX6_leftStranded 21 = .ok (.invokevirtual 66, 3) := by decide +kernel
theorem dX6_leftStranded_24 : decode cX6_leftStranded 24 = .ok (.ireturn, 1) := by decide +kernel
theorem dX6_isWhole_0 : decode cX6_isWhole 0 = .ok (.iconst 1, 1) := by decide +kernel
theorem dX6_isWhole_1 : decode cX6_isWhole 1 = .ok (.istore_n 2, 1) := by decide +kernel
theorem dX6_isWhole_2 : decode cX6_isWhole 2 = .ok (.iconst 0, 1) := by decide +kernel
theorem dX6_isWhole_3 : decode cX6_isWhole 3 = .ok (.istore_n 3, 1) := by decide +kernel
theorem dX6_isWhole_4 : decode cX6_isWhole 4 = .ok (.iload_n 3, 1) := by decide +kernel
theorem dX6_isWhole_5 : decode cX6_isWhole 5 = .ok (.aload_n 0, 1) := by decide +kernel
theorem dX6_isWhole_6 : decode cX6_isWhole 6 = .ok (.invokevirtual 45, 3) := by decide +kernel
theorem dX6_isWhole_9 : decode cX6_isWhole 9 = .ok (.if_icmp .ge 37, 3) := by decide +kernel
theorem dX6_isWhole_12 : decode cX6_isWhole 12 = .ok (.iload_n 2, 1) := by decide +kernel
theorem dX6_isWhole_13 : decode cX6_isWhole 13 = .ok (.ifCond .eq 25, 3) := by decide +kernel
theorem dX6_isWhole_16 : decode cX6_isWhole 16 = .ok (.aload_n 0, 1) := by decide +kernel
theorem dX6_isWhole_17 : decode cX6_isWhole 17 = .ok (.getfield 19, 3) := by decide +kernel
theorem dX6_isWhole_20 : decode cX6_isWhole 20 = .ok (.iload_n 3, 1) := by decide +kernel
theorem dX6_isWhole_21 : decode cX6_isWhole 21 = .ok (.iaload, 1) := by decide +kernel
theorem dX6_isWhole_22 : decode cX6_isWhole 22 = .ok (.iload_n 1, 1) := by decide +kernel
theorem dX6_isWhole_23 : decode cX6_isWhole 23 = .ok (.if_icmp .ne 11, 3) := by decide +kernel
theorem dX6_isWhole_26 : decode cX6_isWhole 26 = .ok (.aload_n 0, 1) := by decide +kernel
theorem dX6_isWhole_27 : decode cX6_isWhole 27 = .ok (.iload_n 3, 1) := by decide +kernel
theorem dX6_isWhole_28 : decode cX6_isWhole 28 = .ok (.invokevirtual 112, 3) := by decide +kernel
theorem dX6_isWhole_31 : decode cX6_isWhole 31 = .ok (.ifCond .eq 7, 3) := by decide +kernel
theorem dX6_isWhole_34 : decode cX6_isWhole 34 = .ok (.iconst 1, 1) := by decide +kernel
theorem dX6_isWhole_35 : decode cX6_isWhole 35 = .ok (.goto 4, 3) := by decide +kernel
theorem dX6_isWhole_38 : decode cX6_isWhole 38 = .ok (.iconst 0, 1) := by decide +kernel
theorem dX6_isWhole_39 : decode cX6_isWhole 39 = .ok (.istore_n 2, 1) := by decide +kernel
theorem dX6_isWhole_40 : decode cX6_isWhole 40 = .ok (.iinc 3 1, 3) := by decide +kernel
theorem dX6_isWhole_43 : decode cX6_isWhole 43 = .ok (.goto (-39), 3) := by decide +kernel
theorem dX6_isWhole_46 : decode cX6_isWhole 46 = .ok (.iload_n 2, 1) := by decide +kernel
theorem dX6_isWhole_47 : decode cX6_isWhole 47 = .ok (.ireturn, 1) := by decide +kernel
theorem dX6_daysWhole_0 : decode cX6_daysWhole 0 = .ok (.aload_n 0, 1) := by decide +kernel
theorem dX6_daysWhole_1 : decode cX6_daysWhole 1 = .ok (.iload_n 1, 1) := by decide +kernel
theorem dX6_daysWhole_2 : decode cX6_daysWhole 2 = .ok (.invokevirtual 69, 3) := by decide +kernel
theorem dX6_daysWhole_5 : decode cX6_daysWhole 5 = .ok (.ifCond .ne 9, 3) := by decide +kernel
theorem dX6_daysWhole_8 : decode cX6_daysWhole 8 = .ok (.aload_n 0, 1) := by decide +kernel
theorem dX6_daysWhole_9 : decode cX6_daysWhole 9 = .ok (.iconst 1, 1) := by decide +kernel
theorem dX6_daysWhole_10 : decode cX6_daysWhole 10 = .ok (.invokevirtual 59, 3) := by decide +kernel
theorem dX6_daysWhole_13 : decode cX6_daysWhole 13 = .ok (.ireturn, 1) := by decide +kernel
theorem dX6_daysWhole_14 : decode cX6_daysWhole 14 = .ok (.aload_n 0, 1) := by decide +kernel
theorem dX6_daysWhole_15 : decode cX6_daysWhole 15 = .ok (.invokevirtual 146, 3) := by decide +kernel
theorem dX6_daysWhole_18 : decode cX6_daysWhole 18 = .ok (.aload_n 0, 1) := by decide +kernel
theorem dX6_daysWhole_19 : decode cX6_daysWhole 19 = .ok (.getfield 19, 3) := by decide +kernel
theorem dX6_daysWhole_22 : decode cX6_daysWhole 22 = .ok (.iload_n 1, 1) := by decide +kernel
theorem dX6_daysWhole_23 : decode cX6_daysWhole 23 = .ok (.iaload, 1) := by decide +kernel
theorem dX6_daysWhole_24 : decode cX6_daysWhole 24 = .ok (.istore_n 2, 1) := by decide +kernel
theorem dX6_daysWhole_25 : decode cX6_daysWhole 25 = .ok (.iload_n 2, 1) := by decide +kernel
theorem dX6_daysWhole_26 : decode cX6_daysWhole 26 = .ok (.iconst (-1), 1) := by decide +kernel
theorem dX6_daysWhole_27 : decode cX6_daysWhole 27 = .ok (.if_icmp .eq 11, 3) := by decide +kernel
theorem dX6_daysWhole_30 : decode cX6_daysWhole 30 = .ok (.aload_n 0, 1) := by decide +kernel
theorem dX6_daysWhole_31 : decode cX6_daysWhole 31 = .ok (.iload_n 2, 1) := by decide +kernel
theorem dX6_daysWhole_32 : decode cX6_daysWhole 32 = .ok (.invokevirtual 132, 3) := by decide +kernel
theorem dX6_daysWhole_35 : decode cX6_daysWhole 35 = .ok (.ifCond .eq 9, 3) := by decide +kernel
theorem dX6_daysWhole_38 : decode cX6_daysWhole 38 = .ok (.aload_n 0, 1) := by decide +kernel
theorem dX6_daysWhole_39 : decode cX6_daysWhole 39 = .ok (.iconst (-1), 1) := by decide +kernel
theorem dX6_daysWhole_40 : decode cX6_daysWhole 40 = .ok (.invokevirtual 66, 3) := by decide +kernel
theorem dX6_daysWhole_43 : decode cX6_daysWhole 43 = .ok (.ireturn, 1) := by decide +kernel
theorem dX6_daysWhole_44 : decode cX6_daysWhole 44 = .ok (.aload_n 0, 1) := by decide +kernel
theorem dX6_daysWhole_45 : decode cX6_daysWhole 45 = .ok (.invokevirtual 106, 3) := by decide +kernel
theorem dX6_daysWhole_48 : decode cX6_daysWhole 48 = .ok (.iconst 0, 1) := by decide +kernel
theorem dX6_daysWhole_49 : decode cX6_daysWhole 49 = .ok (.istore_n 3, 1) := by decide +kernel
theorem dX6_daysWhole_50 : decode cX6_daysWhole 50 = .ok (.iconst 0, 1) := by decide +kernel
theorem dX6_daysWhole_51 : decode cX6_daysWhole 51 = .ok (.istore 4, 2) := by decide +kernel
theorem dX6_daysWhole_53 : decode cX6_daysWhole 53 = .ok (.iload_n 3, 1) := by decide +kernel
theorem dX6_daysWhole_54 : decode cX6_daysWhole 54 = .ok (.bipush 60, 2) := by decide +kernel
theorem dX6_daysWhole_56 : decode cX6_daysWhole 56 = .ok (.if_icmp .ge 26, 3) := by decide +kernel
theorem dX6_daysWhole_59 : decode cX6_daysWhole 59 = .ok (.aload_n 0, 1) := by decide +kernel
theorem dX6_daysWhole_60 : decode cX6_daysWhole 60 = .ok (.iload_n 2, 1) := by decide +kernel
theorem dX6_daysWhole_61 : decode cX6_daysWhole 61 = .ok (.invokevirtual 193, 3) := by decide +kernel
theorem dX6_daysWhole_64 : decode cX6_daysWhole 64 = .ok (.ifCond .eq 18, 3) := by decide +kernel
theorem dX6_daysWhole_67 : decode cX6_daysWhole 67 = .ok (.iload 4, 2) := by decide +kernel
theorem dX6_daysWhole_69 : decode cX6_daysWhole 69 = .ok (.aload_n 0, 1) := by decide +kernel
theorem dX6_daysWhole_70 : decode cX6_daysWhole 70 = .ok (.invokevirtual 163, 3) := by decide +kernel
theorem dX6_daysWhole_73 : decode cX6_daysWhole 73 = .ok (.iadd, 1) := by decide +kernel
theorem dX6_daysWhole_74 : decode cX6_daysWhole 74 = .ok (.istore 4, 2) := by decide +kernel
theorem dX6_daysWhole_76 : decode cX6_daysWhole 76 = .ok (.iinc 3 1, 3) := by decide +kernel
theorem dX6_daysWhole_79 : decode cX6_daysWhole 79 = .ok (.goto (-26), 3) := by decide +kernel
theorem dX6_daysWhole_82 : decode cX6_daysWhole 82 = .ok (.aload_n 0, 1) := by decide +kernel
theorem dX6_daysWhole_83 : decode cX6_daysWhole 83 = .ok (.iload_n 2, 1) := by decide +kernel
theorem dX6_daysWhole_84 : decode cX6_daysWhole 84 = .ok (.invokevirtual 193, 3) := by decide +kernel
theorem dX6_daysWhole_87 : decode cX6_daysWhole 87 = .ok (.ifCond .ne 7, 3) := by decide +kernel
theorem dX6_daysWhole_90 : decode cX6_daysWhole 90 = .ok (.iconst 1, 1) := by decide +kernel
theorem dX6_daysWhole_91 : decode cX6_daysWhole 91 = .ok (.goto 4, 3) := by decide +kernel
theorem dX6_daysWhole_94 : decode cX6_daysWhole 94 = .ok (.iconst 0, 1) := by decide +kernel
theorem dX6_daysWhole_95 : decode cX6_daysWhole 95 = .ok (.istore 5, 2) := by decide +kernel
theorem dX6_daysWhole_97 : decode cX6_daysWhole 97 = .ok (.aload_n 0, 1) := by decide +kernel
theorem dX6_daysWhole_98 : decode cX6_daysWhole 98 = .ok (.invokevirtual 109, 3) := by decide +kernel
theorem dX6_daysWhole_101 : decode cX6_daysWhole 101 = .ok (.aload_n 0, 1) := by decide +kernel
theorem dX6_daysWhole_102 : decode cX6_daysWhole 102 = .ok (.iload 5, 2) := by decide +kernel
theorem dX6_daysWhole_104 : decode cX6_daysWhole 104 = .ok (.ifCond .eq 7, 3) := by decide +kernel
theorem dX6_daysWhole_107 : decode cX6_daysWhole 107 = .ok (.iload_n 3, 1) := by decide +kernel
theorem dX6_daysWhole_108 : decode cX6_daysWhole 108 = .ok (.goto 4, 3) := by decide +kernel
theorem dX6_daysWhole_111 : decode cX6_daysWhole 111 = .ok (.iconst (-1), 1) := by decide +kernel
theorem dX6_daysWhole_112 : decode cX6_daysWhole 112 = .ok (.invokevirtual 66, 3) := by decide +kernel
theorem dX6_daysWhole_115 : decode cX6_daysWhole 115 = .ok (.ireturn, 1) := by decide +kernel
theorem dX6_daysToWater_0 : decode cX6_daysToWater 0 = .ok (.aload_n 0, 1) := by decide +kernel
theorem dX6_daysToWater_1 : decode cX6_daysToWater 1 = .ok (.invokevirtual 106, 3) := by decide +kernel
theorem dX6_daysToWater_4 : decode cX6_daysToWater 4 = .ok (.iconst 0, 1) := by decide +kernel
theorem dX6_daysToWater_5 : decode cX6_daysToWater 5 = .ok (.istore_n 1, 1) := by decide +kernel
theorem dX6_daysToWater_6 : decode cX6_daysToWater 6 = .ok (.iconst 0, 1) := by decide +kernel
theorem dX6_daysToWater_7 : decode cX6_daysToWater 7 = .ok (.istore_n 2, 1) := by decide +kernel
theorem dX6_daysToWater_8 : decode cX6_daysToWater 8 = .ok (.iload_n 1, 1) := by decide +kernel
theorem dX6_daysToWater_9 : decode cX6_daysToWater 9 = .ok (.bipush 60, 2) := by decide +kernel
theorem dX6_daysToWater_11 : decode cX6_daysToWater 11 = .ok (.if_icmp .ge 24, 3) := by decide +kernel
theorem dX6_daysToWater_14 : decode cX6_daysToWater 14 = .ok (.aload_n 0, 1) := by decide +kernel
theorem dX6_daysToWater_15 : decode cX6_daysToWater 15 = .ok (.iconst 2, 1) := by decide +kernel
theorem dX6_daysToWater_16 : decode cX6_daysToWater 16 = .ok (.invokevirtual 179, 3) := by decide +kernel
theorem dX6_daysToWater_19 : decode cX6_daysToWater 19 = .ok (.ifCond .le 16, 3) := by decide +kernel
theorem dX6_daysToWater_22 : decode cX6_daysToWater 22 = .ok (.iload_n 2, 1) := by decide +kernel
theorem dX6_daysToWater_23 : decode cX6_daysToWater 23 = .ok (.aload_n 0, 1) := by decide +kernel
theorem dX6_daysToWater_24 : decode cX6_daysToWater 24 = .ok (.invokevirtual 163, 3) := by decide +kernel
theorem dX6_daysToWater_27 : decode cX6_daysToWater 27 = .ok (.iadd, 1) := by decide +kernel
theorem dX6_daysToWater_28 : decode cX6_daysToWater 28 = .ok (.istore_n 2, 1) := by decide +kernel
theorem dX6_daysToWater_29 : decode cX6_daysToWater 29 = .ok (.iinc 1 1, 3) := by decide +kernel
theorem dX6_daysToWater_32 : decode cX6_daysToWater 32 = .ok (.goto (-24), 3) := by decide +kernel
theorem dX6_daysToWater_35 : decode cX6_daysToWater 35 = .ok (.aload_n 0, 1) := by decide +kernel
theorem dX6_daysToWater_36 : decode cX6_daysToWater 36 = .ok (.iconst 2, 1) := by decide +kernel
theorem dX6_daysToWater_37 : decode cX6_daysToWater 37 = .ok (.invokevirtual 179, 3) := by decide +kernel
theorem dX6_daysToWater_40 : decode cX6_daysToWater 40 = .ok (.ifCond .ne 7, 3) := by decide +kernel
theorem dX6_daysToWater_43 : decode cX6_daysToWater 43 = .ok (.iconst 1, 1) := by decide +kernel
theorem dX6_daysToWater_44 : decode cX6_daysToWater 44 = .ok (.goto 4, 3) := by decide +kernel
theorem dX6_daysToWater_47 : decode cX6_daysToWater 47 = .ok (.iconst 0, 1) := by decide +kernel
theorem dX6_daysToWater_48 : decode cX6_daysToWater 48 = .ok (.istore_n 3, 1) := by decide +kernel
theorem dX6_daysToWater_49 : decode cX6_daysToWater 49 = .ok (.aload_n 0, 1) := by decide +kernel
theorem dX6_daysToWater_50 : decode cX6_daysToWater 50 = .ok (.invokevirtual 109, 3) := by decide +kernel
theorem dX6_daysToWater_53 : decode cX6_daysToWater 53 = .ok (.aload_n 0, 1) := by decide +kernel
theorem dX6_daysToWater_54 : decode cX6_daysToWater 54 = .ok (.iload_n 3, 1) := by decide +kernel
theorem dX6_daysToWater_55 : decode cX6_daysToWater 55 = .ok (.ifCond .eq 7, 3) := by decide +kernel
theorem dX6_daysToWater_58 : decode cX6_daysToWater 58 = .ok (.iload_n 1, 1) := by decide +kernel
theorem dX6_daysToWater_59 : decode cX6_daysToWater 59 = .ok (.goto 4, 3) := by decide +kernel
theorem dX6_daysToWater_62 : decode cX6_daysToWater 62 = .ok (.iconst (-1), 1) := by decide +kernel
theorem dX6_daysToWater_63 : decode cX6_daysToWater 63 = .ok (.invokevirtual 66, 3) := by decide +kernel
theorem dX6_daysToWater_66 : decode cX6_daysToWater 66 = .ok (.ireturn, 1) := by decide +kernel
theorem dX6_barredBy_0 : decode cX6_barredBy 0 = .ok (.aload_n 0, 1) := by decide +kernel
theorem dX6_barredBy_1 : decode cX6_barredBy 1 = .ok (.invokevirtual 146, 3) := by decide +kernel
theorem dX6_barredBy_4 : decode cX6_barredBy 4 = .ok (.aload_n 0, 1) := by decide +kernel
theorem dX6_barredBy_5 : decode cX6_barredBy 5 = .ok (.iconst 0, 1) := by decide +kernel
theorem dX6_barredBy_6 : decode cX6_barredBy 6 = .ok (.iconst 0, 1) := by decide +kernel
theorem dX6_barredBy_7 : decode cX6_barredBy 7 = .ok (.invokevirtual 152, 3) := by decide +kernel
theorem dX6_barredBy_10 : decode cX6_barredBy 10 = .ok (.istore_n 1, 1) := by decide +kernel
theorem dX6_barredBy_11 : decode cX6_barredBy 11 = .ok (.iconst (-1), 1) := by decide +kernel
theorem dX6_barredBy_12 : decode cX6_barredBy 12 = .ok (.istore_n 2, 1) := by decide +kernel
theorem dX6_barredBy_13 : decode cX6_barredBy 13 = .ok (.iconst 0, 1) := by decide +kernel
theorem dX6_barredBy_14 : decode cX6_barredBy 14 = .ok (.istore_n 3, 1) := by decide +kernel
theorem dX6_barredBy_15 : decode cX6_barredBy 15 = .ok (.iload_n 3, 1) := by decide +kernel
theorem dX6_barredBy_16 : decode cX6_barredBy 16 = .ok (.aload_n 0, 1) := by decide +kernel
theorem dX6_barredBy_17 : decode cX6_barredBy 17 = .ok (.invokevirtual 45, 3) := by decide +kernel
theorem dX6_barredBy_20 : decode cX6_barredBy 20 = .ok (.if_icmp .ge 81, 3) := by decide +kernel
theorem dX6_barredBy_23 : decode cX6_barredBy 23 = .ok (.iload_n 1, 1) := by decide +kernel
theorem dX6_barredBy_24 : decode cX6_barredBy 24 = .ok (.iconst (-1), 1) := by decide +kernel
theorem dX6_barredBy_25 : decode cX6_barredBy 25 = .ok (.if_icmp .eq 76, 3) := by decide +kernel
theorem dX6_barredBy_28 : decode cX6_barredBy 28 = .ok (.iload_n 2, 1) := by decide +kernel
theorem dX6_barredBy_29 : decode cX6_barredBy 29 = .ok (.iconst (-1), 1) := by decide +kernel
theorem dX6_barredBy_30 : decode cX6_barredBy 30 = .ok (.if_icmp .ne 71, 3) := by decide +kernel
theorem dX6_barredBy_33 : decode cX6_barredBy 33 = .ok (.aload_n 0, 1) := by decide +kernel
theorem dX6_barredBy_34 : decode cX6_barredBy 34 = .ok (.getfield 7, 3) := by decide +kernel
theorem dX6_barredBy_37 : decode cX6_barredBy 37 = .ok (.bipush 8, 2) := by decide +kernel
theorem dX6_barredBy_39 : decode cX6_barredBy 39 = .ok (.iload_n 3, 1) := by decide +kernel
theorem dX6_barredBy_40 : decode cX6_barredBy 40 = .ok (.iadd, 1) := by decide +kernel
theorem dX6_barredBy_41 : decode cX6_barredBy 41 = .ok (.iaload, 1) := by decide +kernel
theorem dX6_barredBy_42 : decode cX6_barredBy 42 = .ok (.istore 4, 2) := by decide +kernel
theorem dX6_barredBy_44 : decode cX6_barredBy 44 = .ok (.iload 4, 2) := by decide +kernel
theorem dX6_barredBy_46 : decode cX6_barredBy 46 = .ok (.ifCond .le 49, 3) := by decide +kernel
theorem dX6_barredBy_49 : decode cX6_barredBy 49 = .ok (.aload_n 0, 1) := by decide +kernel
theorem dX6_barredBy_50 : decode cX6_barredBy 50 = .ok (.getfield 19, 3) := by decide +kernel
theorem dX6_barredBy_53 : decode cX6_barredBy 53 = .ok (.iload_n 3, 1) := by decide +kernel
theorem dX6_barredBy_54 : decode cX6_barredBy 54 = .ok (.iaload, 1) := by decide +kernel
theorem dX6_barredBy_55 : decode cX6_barredBy 55 = .ok (.iload_n 1, 1) := by decide +kernel
theorem dX6_barredBy_56 : decode cX6_barredBy 56 = .ok (.if_icmp .eq 39, 3) := by decide +kernel
theorem dX6_barredBy_59 : decode cX6_barredBy 59 = .ok (.aload_n 0, 1) := by decide +kernel
theorem dX6_barredBy_60 : decode cX6_barredBy 60 = .ok (.getfield 7, 3) := by decide +kernel
theorem dX6_barredBy_63 : decode cX6_barredBy 63 = .ok (.bipush 8, 2) := by decide +kernel
theorem dX6_barredBy_65 : decode cX6_barredBy 65 = .ok (.iload_n 3, 1) := by decide +kernel
theorem dX6_barredBy_66 : decode cX6_barredBy 66 = .ok (.iadd, 1) := by decide +kernel
theorem dX6_barredBy_67 : decode cX6_barredBy 67 = .ok (.iconst 0, 1) := by decide +kernel
theorem dX6_barredBy_68 : decode cX6_barredBy 68 = .ok (.iastore, 1) := by decide +kernel
theorem dX6_barredBy_69 : decode cX6_barredBy 69 = .ok (.aload_n 0, 1) := by decide +kernel
theorem dX6_barredBy_70 : decode cX6_barredBy 70 = .ok (.iload_n 1, 1) := by decide +kernel
theorem dX6_barredBy_71 : decode cX6_barredBy 71 = .ok (.invokevirtual 139, 3) := by decide +kernel
theorem dX6_barredBy_74 : decode cX6_barredBy 74 = .ok (.iconst (-1), 1) := by decide +kernel
theorem dX6_barredBy_75 : decode cX6_barredBy 75 = .ok (.if_icmp .ne 7, 3) := by decide +kernel
theorem dX6_barredBy_78 : decode cX6_barredBy 78 = .ok (.iconst (-1), 1) := by decide +kernel
theorem dX6_barredBy_79 : decode cX6_barredBy 79 = .ok (.goto 4, 3) := by decide +kernel
theorem dX6_barredBy_82 : decode cX6_barredBy 82 = .ok (.iload_n 3, 1) := by decide +kernel
theorem dX6_barredBy_83 : decode cX6_barredBy 83 = .ok (.istore_n 2, 1) := by decide +kernel
theorem dX6_barredBy_84 : decode cX6_barredBy 84 = .ok (.aload_n 0, 1) := by decide +kernel
theorem dX6_barredBy_85 : decode cX6_barredBy 85 = .ok (.getfield 7, 3) := by decide +kernel
theorem dX6_barredBy_88 : decode cX6_barredBy 88 = .ok (.bipush 8, 2) := by decide +kernel
theorem dX6_barredBy_90 : decode cX6_barredBy 90 = .ok (.iload_n 3, 1) := by decide +kernel
theorem dX6_barredBy_91 : decode cX6_barredBy 91 = .ok (.iadd, 1) := by decide +kernel
theorem dX6_barredBy_92 : decode cX6_barredBy 92 = .ok (.iload 4, 2) := by decide +kernel
theorem dX6_barredBy_94 : decode cX6_barredBy 94 = .ok (.iastore, 1) := by decide +kernel
theorem dX6_barredBy_95 : decode cX6_barredBy 95 = .ok (.iinc 3 1, 3) := by decide +kernel
theorem dX6_barredBy_98 : decode cX6_barredBy 98 = .ok (.goto (-83), 3) := by decide +kernel
theorem dX6_barredBy_101 : decode cX6_barredBy 101 = .ok (.aload_n 0, 1) := by decide +kernel
theorem dX6_barredBy_102 : decode cX6_barredBy 102 = .ok (.iload_n 2, 1) := by decide +kernel
theorem dX6_barredBy_103 : decode cX6_barredBy 103 = .ok (.invokevirtual 66, 3) := by decide +kernel
theorem dX6_barredBy_106 : decode cX6_barredBy 106 = .ok (.ireturn, 1) := by decide +kernel
theorem dX6_harvest_0 : decode cX6_harvest 0 = .ok (.aload_n 0, 1) := by decide +kernel
theorem dX6_harvest_1 : decode cX6_harvest 1 = .ok (.iconst 0, 1) := by decide +kernel
theorem dX6_harvest_2 : decode cX6_harvest 2 = .ok (.putfield 38, 3) := by decide +kernel
theorem dX6_harvest_5 : decode cX6_harvest 5 = .ok (.aload_n 0, 1) := by decide +kernel
theorem dX6_harvest_6 : decode cX6_harvest 6 = .ok (.getfield 7, 3) := by decide +kernel
theorem dX6_harvest_9 : decode cX6_harvest 9 = .ok (.iconst 5, 1) := by decide +kernel
theorem dX6_harvest_10 : decode cX6_harvest 10 = .ok (.iaload, 1) := by decide +kernel
theorem dX6_harvest_11 : decode cX6_harvest 11 = .ok (.i2d, 1) := by decide +kernel
theorem dX6_harvest_12 : decode cX6_harvest 12 = .ok (.dstore_n 1, 1) := by decide +kernel
theorem dX6_harvest_13 : decode cX6_harvest 13 = .ok (.aload_n 0, 1) := by decide +kernel
theorem dX6_harvest_14 : decode cX6_harvest 14 = .ok (.getfield 7, 3) := by decide +kernel
theorem dX6_harvest_17 : decode cX6_harvest 17 = .ok (.iconst 4, 1) := by decide +kernel
theorem dX6_harvest_18 : decode cX6_harvest 18 = .ok (.iaload, 1) := by decide +kernel
theorem dX6_harvest_19 : decode cX6_harvest 19 = .ok (.i2d, 1) := by decide +kernel
theorem dX6_harvest_20 : decode cX6_harvest 20 = .ok (.dstore_n 3, 1) := by decide +kernel
theorem dX6_harvest_21 : decode cX6_harvest 21 = .ok (.aload_n 0, 1) := by decide +kernel
theorem dX6_harvest_22 : decode cX6_harvest 22 = .ok (.getfield 7, 3) := by decide +kernel
theorem dX6_harvest_25 : decode cX6_harvest 25 = .ok (.iconst 4, 1) := by decide +kernel
theorem dX6_harvest_26 : decode cX6_harvest 26 = .ok (.iaload, 1) := by decide +kernel
theorem dX6_harvest_27 : decode cX6_harvest 27 = .ok (.ifCond .ne 7, 3) := by decide +kernel
theorem dX6_harvest_30 : decode cX6_harvest 30 = .ok (.dconst 0, 1) := by decide +kernel
theorem dX6_harvest_31 : decode cX6_harvest 31 = .ok (.goto 6, 3) := by decide +kernel
theorem dX6_harvest_34 : decode cX6_harvest 34 = .ok (.dload_n 1, 1) := by decide +kernel
theorem dX6_harvest_35 : decode cX6_harvest 35 = .ok (.dload_n 3, 1) := by decide +kernel
theorem dX6_harvest_36 : decode cX6_harvest 36 = .ok (.ddiv, 1) := by decide +kernel
theorem dX6_harvest_37 : decode cX6_harvest 37 = .ok (.dreturn, 1) := by decide +kernel
theorem dX6_append_0 : decode cX6_append 0 = .ok (.iload_n 1, 1) := by decide +kernel
theorem dX6_append_1 : decode cX6_append 1 = .ok (.i2l, 1) := by decide +kernel
theorem dX6_append_2 : decode cX6_append 2 = .ok (.lconst 0, 1) := by decide +kernel
theorem dX6_append_3 : decode cX6_append 3 = .ok (.ldc2_w 196, 3) := by decide +kernel
theorem dX6_append_6 : decode cX6_append 6 = .ok (.invokestatic 49, 3) := by decide +kernel
theorem dX6_append_9 : decode cX6_append 9 = .ok (.ifCond .ne 9, 3) := by decide +kernel
theorem dX6_append_12 : decode cX6_append 12 = .ok (.aload_n 0, 1) := by decide +kernel
theorem dX6_append_13 : decode cX6_append 13 = .ok (.iconst 1, 1) := by decide +kernel
theorem dX6_append_14 : decode cX6_append 14 = .ok (.invokevirtual 59, 3) := by decide +kernel
theorem dX6_append_17 : decode cX6_append 17 = .ok (.ireturn, 1) := by decide +kernel
theorem dX6_append_18 : decode cX6_append 18 = .ok (.aload_n 0, 1) := by decide +kernel
theorem dX6_append_19 : decode cX6_append 19 = .ok (.getfield 198, 3) := by decide +kernel
theorem dX6_append_22 : decode cX6_append 22 = .ok (.bipush 60, 2) := by decide +kernel
theorem dX6_append_24 : decode cX6_append 24 = .ok (.if_icmp .ne 9, 3) := by decide +kernel
theorem dX6_append_27 : decode cX6_append 27 = .ok (.aload_n 0, 1) := by decide +kernel
theorem dX6_append_28 : decode cX6_append 28 = .ok (.iconst 2, 1) := by decide +kernel
theorem dX6_append_29 : decode cX6_append 29 = .ok (.invokevirtual 59, 3) := by decide +kernel
theorem dX6_append_32 : decode cX6_append 32 = .ok (.ireturn, 1) := by decide +kernel
theorem dX6_append_33 : decode cX6_append 33 = .ok (.aload_n 0, 1) := by decide +kernel
theorem dX6_append_34 : decode cX6_append 34 = .ok (.getfield 28, 3) := by decide +kernel
theorem dX6_append_37 : decode cX6_append 37 = .ok (.aload_n 0, 1) := by decide +kernel
theorem dX6_append_38 : decode cX6_append 38 = .ok (.getfield 198, 3) := by decide +kernel
theorem dX6_append_41 : decode cX6_append 41 = .ok (.iload_n 1, 1) := by decide +kernel
theorem dX6_append_42 : decode cX6_append 42 = .ok (.iastore, 1) := by decide +kernel
theorem dX6_append_43 : decode cX6_append 43 = .ok (.aload_n 0, 1) := by decide +kernel
theorem dX6_append_44 : decode cX6_append 44 = .ok (.dup, 1) := by decide +kernel
theorem dX6_append_45 : decode cX6_append 45 = .ok (.getfield 198, 3) := by decide +kernel
theorem dX6_append_48 : decode cX6_append 48 = .ok (.iconst 1, 1) := by decide +kernel
theorem dX6_append_49 : decode cX6_append 49 = .ok (.iadd, 1) := by decide +kernel
theorem dX6_append_50 : decode cX6_append 50 = .ok (.putfield 198, 3) := by decide +kernel
theorem dX6_append_53 : decode cX6_append 53 = .ok (.aload_n 0, 1) := by decide +kernel
theorem dX6_append_54 : decode cX6_append 54 = .ok (.aload_n 0, 1) := by decide +kernel
theorem dX6_append_55 : decode cX6_append 55 = .ok (.getfield 198, 3) := by decide +kernel
theorem dX6_append_58 : decode cX6_append 58 = .ok (.invokevirtual 66, 3) := by decide +kernel
theorem dX6_append_61 : decode cX6_append 61 = .ok (.ireturn, 1) := by decide +kernel
theorem dX6_clearText_0 : decode cX6_clearText 0 = .ok (.aload_n 0, 1) := by decide +kernel
theorem dX6_clearText_1 : decode cX6_clearText 1 = .ok (.getfield 198, 3) := by decide +kernel
theorem dX6_clearText_4 : decode cX6_clearText 4 = .ok (.istore_n 1, 1) := by decide +kernel
theorem dX6_clearText_5 : decode cX6_clearText 5 = .ok (.aload_n 0, 1) := by decide +kernel
theorem dX6_clearText_6 : decode cX6_clearText 6 = .ok (.iconst 0, 1) := by decide +kernel
theorem dX6_clearText_7 : decode cX6_clearText 7 = .ok (.putfield 198, 3) := by decide +kernel
theorem dX6_clearText_10 : decode cX6_clearText 10 = .ok (.aload_n 0, 1) := by decide +kernel
theorem dX6_clearText_11 : decode cX6_clearText 11 = .ok (.iload_n 1, 1) := by decide +kernel
theorem dX6_clearText_12 : decode cX6_clearText 12 = .ok (.invokevirtual 66, 3) := by decide +kernel
theorem dX6_clearText_15 : decode cX6_clearText 15 = .ok (.ireturn, 1) := by decide +kernel
theorem dX6_here_0 : decode cX6_here 0 = .ok (.iload_n 1, 1) := by decide +kernel
theorem dX6_here_1 : decode cX6_here 1 = .ok (.aload_n 0, 1) := by decide +kernel
theorem dX6_here_2 : decode cX6_here 2 = .ok (.getfield 198, 3) := by decide +kernel
theorem dX6_here_5 : decode cX6_here 5 = .ok (.if_icmp .ge 12, 3) := by decide +kernel
theorem dX6_here_8 : decode cX6_here 8 = .ok (.aload_n 0, 1) := by decide +kernel
theorem dX6_here_9 : decode cX6_here 9 = .ok (.getfield 28, 3) := by decide +kernel
theorem dX6_here_12 : decode cX6_here 12 = .ok (.iload_n 1, 1) := by decide +kernel
theorem dX6_here_13 : decode cX6_here 13 = .ok (.iaload, 1) := by decide +kernel
theorem dX6_here_14 : decode cX6_here 14 = .ok (.goto 4, 3) := by decide +kernel
theorem dX6_here_17 : decode cX6_here 17 = .ok (.iconst (-1), 1) := by decide +kernel
theorem dX6_here_18 : decode cX6_here 18 = .ok (.ireturn, 1) := by decide +kernel
theorem dX6_behindDigits_0 : decode cX6_behindDigits 0 = .ok (.iload_n 1, 1) := by decide +kernel
theorem dX6_behindDigits_1 : decode cX6_behindDigits 1 = .ok (.istore_n 3, 1) := by decide +kernel
theorem dX6_behindDigits_2 : decode cX6_behindDigits 2 = .ok (.aload_n 0, 1) := by decide +kernel
theorem dX6_behindDigits_3 : decode cX6_behindDigits 3 = .ok (.iload_n 3, 1) := by decide +kernel
theorem dX6_behindDigits_4 : decode cX6_behindDigits 4 = .ok (.invokevirtual 201, 3) := by decide +kernel
theorem dX6_behindDigits_7 : decode cX6_behindDigits 7 = .ok (.i2l, 1) := by decide +kernel
theorem dX6_behindDigits_8 : decode cX6_behindDigits 8 = .ok (.ldc2_w 204, 3) := by decide +kernel
theorem dX6_behindDigits_11 : decode cX6_behindDigits 11 = .ok (.ldc2_w 206, 3) := by decide +kernel
theorem dX6_behindDigits_14 : decode cX6_behindDigits 14 = .ok (.invokestatic 49, 3) := by decide +kernel
theorem dX6_behindDigits_17 : decode cX6_behindDigits 17 = .ok (.ifCond .eq 16, 3) := by decide +kernel
theorem dX6_behindDigits_20 : decode cX6_behindDigits 20 = .ok (.iload_n 3, 1) := by decide +kernel
theorem dX6_behindDigits_21 : decode cX6_behindDigits 21 = .ok (.iload_n 1, 1) := by decide +kernel
theorem dX6_behindDigits_22 : decode cX6_behindDigits 22 = .ok (.isub, 1) := by decide +kernel
theorem dX6_behindDigits_23 : decode cX6_behindDigits 23 = .ok (.iload_n 2, 1) := by decide +kernel
theorem dX6_behindDigits_24 : decode cX6_behindDigits 24 = .ok (.if_icmp .ge 9, 3) := by decide +kernel
theorem dX6_behindDigits_27 : decode cX6_behindDigits 27 = .ok (.iinc 3 1, 3) := by decide +kernel
theorem dX6_behindDigits_30 : decode cX6_behindDigits 30 = .ok (.goto (-28), 3) := by decide +kernel
theorem dX6_behindDigits_33 : decode cX6_behindDigits 33 = .ok (.iload_n 3, 1) := by decide +kernel
theorem dX6_behindDigits_34 : decode cX6_behindDigits 34 = .ok (.ireturn, 1) := by decide +kernel
theorem dX6_fault_0 : decode cX6_fault 0 = .ok (.aload_n 0, 1) := by decide +kernel
theorem dX6_fault_1 : decode cX6_fault 1 = .ok (.iconst 0, 1) := by decide +kernel
theorem dX6_fault_2 : decode cX6_fault 2 = .ok (.bipush 7, 2) := by decide +kernel
theorem dX6_fault_4 : decode cX6_fault 4 = .ok (.invokevirtual 208, 3) := by decide +kernel
theorem dX6_fault_7 : decode cX6_fault 7 = .ok (.istore_n 1, 1) := by decide +kernel
theorem dX6_fault_8 : decode cX6_fault 8 = .ok (.aload_n 0, 1) := by decide +kernel
theorem dX6_fault_9 : decode cX6_fault 9 = .ok (.iload_n 1, 1) := by decide +kernel
theorem dX6_fault_10 : decode cX6_fault 10 = .ok (.putfield 211, 3) := by decide +kernel
theorem dX6_fault_13 : decode cX6_fault 13 = .ok (.aload_n 0, 1) := by decide +kernel
theorem dX6_fault_14 : decode cX6_fault 14 = .ok (.iconst 1, 1) := by decide +kernel
theorem dX6_fault_15 : decode cX6_fault 15 = .ok (.putfield 214, 3) := by decide +kernel
theorem dX6_fault_18 : decode cX6_fault 18 = .ok (.aload_n 0, 1) := by decide +kernel
theorem dX6_fault_19 : decode cX6_fault 19 = .ok (.getfield 211, 3) := by decide +kernel
theorem dX6_fault_22 : decode cX6_fault 22 = .ok (.iconst 2, 1) := by decide +kernel
theorem dX6_fault_23 : decode cX6_fault 23 = .ok (.if_icmp .ge 5, 3) := by decide +kernel
theorem dX6_fault_26 : decode cX6_fault 26 = .ok (.iload_n 1, 1) := by decide +kernel
theorem dX6_fault_27 : decode cX6_fault 27 = .ok (.ireturn, 1) := by decide +kernel
theorem dX6_fault_28 : decode cX6_fault 28 = .ok (.iload_n 1, 1) := by decide +kernel
theorem dX6_fault_29 : decode cX6_fault 29 = .ok (.aload_n 0, 1) := by decide +kernel
theorem dX6_fault_30 : decode cX6_fault 30 = .ok (.getfield 198, 3) := by decide +kernel
theorem dX6_fault_33 : decode cX6_fault 33 = .ok (.if_icmp .ge 65, 3) := by decide +kernel
theorem dX6_fault_36 : decode cX6_fault 36 = .ok (.aload_n 0, 1) := by decide +kernel
theorem dX6_fault_37 : decode cX6_fault 37 = .ok (.iload_n 1, 1) := by decide +kernel
theorem dX6_fault_38 : decode cX6_fault 38 = .ok (.invokevirtual 201, 3) := by decide +kernel
theorem dX6_fault_41 : decode cX6_fault 41 = .ok (.bipush 47, 2) := by decide +kernel
theorem dX6_fault_43 : decode cX6_fault 43 = .ok (.if_icmp .ne 12, 3) := by decide +kernel
theorem dX6_fault_46 : decode cX6_fault 46 = .ok (.aload_n 0, 1) := by decide +kernel
theorem dX6_fault_47 : decode cX6_fault 47 = .ok (.getfield 214, 3) := by decide +kernel
theorem dX6_fault_50 : decode cX6_fault 50 = .ok (.bipush 7, 2) := by decide +kernel
theorem dX6_fault_52 : decode cX6_fault 52 = .ok (.if_icmp .ne 5, 3) := by decide +kernel
theorem dX6_fault_55 : decode cX6_fault 55 = .ok (.iload_n 1, 1) := by decide +kernel
theorem dX6_fault_56 : decode cX6_fault 56 = .ok (.ireturn, 1) := by decide +kernel
theorem dX6_fault_57 : decode cX6_fault 57 = .ok (.aload_n 0, 1) := by decide +kernel
theorem dX6_fault_58 : decode cX6_fault 58 = .ok (.iload_n 1, 1) := by decide +kernel
theorem dX6_fault_59 : decode cX6_fault 59 = .ok (.iconst 1, 1) := by decide +kernel
theorem dX6_fault_60 : decode cX6_fault 60 = .ok (.iadd, 1) := by decide +kernel
theorem dX6_fault_61 : decode cX6_fault 61 = .ok (.aload_n 0, 1) := by decide +kernel
theorem dX6_fault_62 : decode cX6_fault 62 = .ok (.getfield 211, 3) := by decide +kernel
theorem dX6_fault_65 : decode cX6_fault 65 = .ok (.invokevirtual 208, 3) := by decide +kernel
theorem dX6_fault_68 : decode cX6_fault 68 = .ok (.istore_n 2, 1) := by decide +kernel
theorem dX6_fault_69 : decode cX6_fault 69 = .ok (.iload_n 2, 1) := by decide +kernel
theorem dX6_fault_70 : decode cX6_fault 70 = .ok (.iload_n 1, 1) := by decide +kernel
theorem dX6_fault_71 : decode cX6_fault 71 = .ok (.isub, 1) := by decide +kernel
theorem dX6_fault_72 : decode cX6_fault 72 = .ok (.iconst 1, 1) := by decide +kernel
theorem dX6_fault_73 : decode cX6_fault 73 = .ok (.isub, 1) := by decide +kernel
theorem dX6_fault_74 : decode cX6_fault 74 = .ok (.aload_n 0, 1) := by decide +kernel
theorem dX6_fault_75 : decode cX6_fault 75 = .ok (.getfield 211, 3) := by decide +kernel
theorem dX6_fault_78 : decode cX6_fault 78 = .ok (.if_icmp .ge 5, 3) := by decide +kernel
theorem dX6_fault_81 : decode cX6_fault 81 = .ok (.iload_n 2, 1) := by decide +kernel
theorem dX6_fault_82 : decode cX6_fault 82 = .ok (.ireturn, 1) := by decide +kernel
theorem dX6_fault_83 : decode cX6_fault 83 = .ok (.aload_n 0, 1) := by decide +kernel
theorem dX6_fault_84 : decode cX6_fault 84 = .ok (.dup, 1) := by decide +kernel
theorem dX6_fault_85 : decode cX6_fault 85 = .ok (.getfield 214, 3) := by decide +kernel
theorem dX6_fault_88 : decode cX6_fault 88 = .ok (.iconst 1, 1) := by decide +kernel
theorem dX6_fault_89 : decode cX6_fault 89 = .ok (.iadd, 1) := by decide +kernel
theorem dX6_fault_90 : decode cX6_fault 90 = .ok (.putfield 214, 3) := by decide +kernel
theorem dX6_fault_93 : decode cX6_fault 93 = .ok (.iload_n 2, 1) := by decide +kernel
theorem dX6_fault_94 : decode cX6_fault 94 = .ok (.istore_n 1, 1) := by decide +kernel
theorem dX6_fault_95 : decode cX6_fault 95 = .ok (.goto (-67), 3) := by decide +kernel
theorem dX6_fault_98 : decode cX6_fault 98 = .ok (.aload_n 0, 1) := by decide +kernel
theorem dX6_fault_99 : decode cX6_fault 99 = .ok (.getfield 214, 3) := by decide +kernel
theorem dX6_fault_102 : decode cX6_fault 102 = .ok (.iconst 2, 1) := by decide +kernel
theorem dX6_fault_103 : decode cX6_fault 103 = .ok (.if_icmp .ge 7, 3) := by decide +kernel
theorem dX6_fault_106 : decode cX6_fault 106 = .ok (.iload_n 1, 1) := by decide +kernel
theorem dX6_fault_107 : decode cX6_fault 107 = .ok (.goto 4, 3) := by decide +kernel
theorem dX6_fault_110 : decode cX6_fault 110 = .ok (.iconst (-1), 1) := by decide +kernel
theorem dX6_fault_111 : decode cX6_fault 111 = .ok (.ireturn, 1) := by decide +kernel
theorem dX6_parse_0 : decode cX6_parse 0 = .ok (.aload_n 0, 1) := by decide +kernel
theorem dX6_parse_1 : decode cX6_parse 1 = .ok (.invokevirtual 217, 3) := by decide +kernel
theorem dX6_parse_4 : decode cX6_parse 4 = .ok (.istore_n 1, 1) := by decide +kernel
theorem dX6_parse_5 : decode cX6_parse 5 = .ok (.iload_n 1, 1) := by decide +kernel
theorem dX6_parse_6 : decode cX6_parse 6 = .ok (.iconst (-1), 1) := by decide +kernel
theorem dX6_parse_7 : decode cX6_parse 7 = .ok (.if_icmp .eq 12, 3) := by decide +kernel
theorem dX6_parse_10 : decode cX6_parse 10 = .ok (.aload_n 0, 1) := by decide +kernel
theorem dX6_parse_11 : decode cX6_parse 11 = .ok (.bipush (-10), 2) := by decide +kernel
theorem dX6_parse_13 : decode cX6_parse 13 = .ok (.iload_n 1, 1) := by decide +kernel
theorem dX6_parse_14 : decode cX6_parse 14 = .ok (.isub, 1) := by decide +kernel
theorem dX6_parse_15 : decode cX6_parse 15 = .ok (.invokevirtual 66, 3) := by decide +kernel
theorem dX6_parse_18 : decode cX6_parse 18 = .ok (.ireturn, 1) := by decide +kernel
theorem dX6_parse_19 : decode cX6_parse 19 = .ok (.aload_n 0, 1) := by decide +kernel
theorem dX6_parse_20 : decode cX6_parse 20 = .ok (.invokevirtual 63, 3) := by decide +kernel
theorem dX6_parse_23 : decode cX6_parse 23 = .ok (.aload_n 0, 1) := by decide +kernel
theorem dX6_parse_24 : decode cX6_parse 24 = .ok (.aload_n 0, 1) := by decide +kernel
theorem dX6_parse_25 : decode cX6_parse 25 = .ok (.getfield 211, 3) := by decide +kernel
theorem dX6_parse_28 : decode cX6_parse 28 = .ok (.aload_n 0, 1) := by decide +kernel
theorem dX6_parse_29 : decode cX6_parse 29 = .ok (.getfield 214, 3) := by decide +kernel
theorem dX6_parse_32 : decode cX6_parse 32 = .ok (.invokevirtual 31, 3) := by decide +kernel
theorem dX6_parse_35 : decode cX6_parse 35 = .ok (.iconst 0, 1) := by decide +kernel
theorem dX6_parse_36 : decode cX6_parse 36 = .ok (.istore_n 2, 1) := by decide +kernel
theorem dX6_parse_37 : decode cX6_parse 37 = .ok (.iload_n 2, 1) := by decide +kernel
theorem dX6_parse_38 : decode cX6_parse 38 = .ok (.aload_n 0, 1) := by decide +kernel
theorem dX6_parse_39 : decode cX6_parse 39 = .ok (.invokevirtual 45, 3) := by decide +kernel
theorem dX6_parse_42 : decode cX6_parse 42 = .ok (.if_icmp .ge 30, 3) := by decide +kernel
theorem dX6_parse_45 : decode cX6_parse 45 = .ok (.aload_n 0, 1) := by decide +kernel
theorem dX6_parse_46 : decode cX6_parse 46 = .ok (.iload_n 2, 1) := by decide +kernel
theorem dX6_parse_47 : decode cX6_parse 47 = .ok (.aload_n 0, 1) := by decide +kernel
theorem dX6_parse_48 : decode cX6_parse 48 = .ok (.getfield 28, 3) := by decide +kernel
theorem dX6_parse_51 : decode cX6_parse 51 = .ok (.iload_n 2, 1) := by decide +kernel
theorem dX6_parse_52 : decode cX6_parse 52 = .ok (.iload_n 2, 1) := by decide +kernel
theorem dX6_parse_53 : decode cX6_parse 53 = .ok (.aload_n 0, 1) := by decide +kernel
theorem dX6_parse_54 : decode cX6_parse 54 = .ok (.getfield 211, 3) := by decide +kernel
theorem dX6_parse_57 : decode cX6_parse 57 = .ok (.idiv, 1) := by decide +kernel
theorem dX6_parse_58 : decode cX6_parse 58 = .ok (.iadd, 1) := by decide +kernel
theorem dX6_parse_59 : decode cX6_parse 59 = .ok (.iaload, 1) := by decide +kernel
theorem dX6_parse_60 : decode cX6_parse 60 = .ok (.bipush 48, 2) := by decide +kernel
theorem dX6_parse_62 : decode cX6_parse 62 = .ok (.isub, 1) := by decide +kernel
theorem dX6_parse_63 : decode cX6_parse 63 = .ok (.invokevirtual 35, 3) := by decide +kernel
theorem dX6_parse_66 : decode cX6_parse 66 = .ok (.iinc 2 1, 3) := by decide +kernel
theorem dX6_parse_69 : decode cX6_parse 69 = .ok (.goto (-32), 3) := by decide +kernel
theorem dX6_parse_72 : decode cX6_parse 72 = .ok (.aload_n 0, 1) := by decide +kernel
theorem dX6_parse_73 : decode cX6_parse 73 = .ok (.aload_n 0, 1) := by decide +kernel
theorem dX6_parse_74 : decode cX6_parse 74 = .ok (.getfield 7, 3) := by decide +kernel
theorem dX6_parse_77 : decode cX6_parse 77 = .ok (.iconst 4, 1) := by decide +kernel
theorem dX6_parse_78 : decode cX6_parse 78 = .ok (.iaload, 1) := by decide +kernel
theorem dX6_parse_79 : decode cX6_parse 79 = .ok (.invokevirtual 66, 3) := by decide +kernel
theorem dX6_parse_82 : decode cX6_parse 82 = .ok (.ireturn, 1) := by decide +kernel
theorem dX6_undo_0 : decode cX6_undo 0 = .ok (.aload_n 0, 1) := by decide +kernel
theorem dX6_undo_1 : decode cX6_undo 1 = .ok (.getfield 42, 3) := by decide +kernel
theorem dX6_undo_4 : decode cX6_undo 4 = .ok (.ifCond .ne 9, 3) := by decide +kernel
theorem dX6_undo_7 : decode cX6_undo 7 = .ok (.aload_n 0, 1) := by decide +kernel
theorem dX6_undo_8 : decode cX6_undo 8 = .ok (.iconst 1, 1) := by decide +kernel
theorem dX6_undo_9 : decode cX6_undo 9 = .ok (.invokevirtual 59, 3) := by decide +kernel
theorem dX6_undo_12 : decode cX6_undo 12 = .ok (.ireturn, 1) := by decide +kernel
theorem dX6_undo_13 : decode cX6_undo 13 = .ok (.aload_n 0, 1) := by decide +kernel
theorem dX6_undo_14 : decode cX6_undo 14 = .ok (.dup, 1) := by decide +kernel
theorem dX6_undo_15 : decode cX6_undo 15 = .ok (.getfield 42, 3) := by decide +kernel
theorem dX6_undo_18 : decode cX6_undo 18 = .ok (.iconst 1, 1) := by decide +kernel
theorem dX6_undo_19 : decode cX6_undo 19 = .ok (.isub, 1) := by decide +kernel
theorem dX6_undo_20 : decode cX6_undo 20 = .ok (.putfield 42, 3) := by decide +kernel
theorem dX6_undo_23 : decode cX6_undo 23 = .ok (.iconst 0, 1) := by decide +kernel
theorem dX6_undo_24 : decode cX6_undo 24 = .ok (.istore_n 1, 1) := by decide +kernel
theorem dX6_undo_25 : decode cX6_undo 25 = .ok (.iload_n 1, 1) := by decide +kernel
theorem dX6_undo_26 : decode cX6_undo 26 = .ok (.sipush 226, 3) := by decide +kernel
theorem dX6_undo_29 : decode cX6_undo 29 = .ok (.if_icmp .ge 30, 3) := by decide +kernel
theorem dX6_undo_32 : decode cX6_undo 32 = .ok (.aload_n 0, 1) := by decide +kernel
theorem dX6_undo_33 : decode cX6_undo 33 = .ok (.getfield 7, 3) := by decide +kernel
theorem dX6_undo_36 : decode cX6_undo 36 = .ok (.iload_n 1, 1) := by decide +kernel
theorem dX6_undo_37 : decode cX6_undo 37 = .ok (.aload_n 0, 1) := by decide +kernel
theorem dX6_undo_38 : decode cX6_undo 38 = .ok (.getfield 13, 3) := by decide +kernel
theorem dX6_undo_41 : decode cX6_undo 41 = .ok (.sipush 226, 3) := by decide +kernel
theorem dX6_undo_44 : decode cX6_undo 44 = .ok (.aload_n 0, 1) := by decide +kernel
theorem dX6_undo_45 : decode cX6_undo 45 = .ok (.getfield 42, 3) := by decide +kernel
theorem dX6_undo_48 : decode cX6_undo 48 = .ok (.imul, 1) := by decide +kernel
theorem dX6_undo_49 : decode cX6_undo 49 = .ok (.iload_n 1, 1) := by decide +kernel
theorem dX6_undo_50 : decode cX6_undo 50 = .ok (.iadd, 1) := by decide +kernel
theorem dX6_undo_51 : decode cX6_undo 51 = .ok (.iaload, 1) := by decide +kernel
theorem dX6_undo_52 : decode cX6_undo 52 = .ok (.iastore, 1) := by decide +kernel
theorem dX6_undo_53 : decode cX6_undo 53 = .ok (.iinc 1 1, 3) := by decide +kernel
theorem dX6_undo_56 : decode cX6_undo 56 = .ok (.goto (-31), 3) := by decide +kernel
theorem dX6_undo_59 : decode cX6_undo 59 = .ok (.aload_n 0, 1) := by decide +kernel
theorem dX6_undo_60 : decode cX6_undo 60 = .ok (.aload_n 0, 1) := by decide +kernel
theorem dX6_undo_61 : decode cX6_undo 61 = .ok (.getfield 42, 3) := by decide +kernel
theorem dX6_undo_64 : decode cX6_undo 64 = .ok (.invokevirtual 66, 3) := by decide +kernel
theorem dX6_undo_67 : decode cX6_undo 67 = .ok (.ireturn, 1) := by decide +kernel
theorem dX6_digest_0 : decode cX6_digest 0 = .ok (.aload_n 0, 1) := by decide +kernel
theorem dX6_digest_1 : decode cX6_digest 1 = .ok (.iconst 0, 1) := by decide +kernel
theorem dX6_digest_2 : decode cX6_digest 2 = .ok (.putfield 38, 3) := by decide +kernel
theorem dX6_digest_5 : decode cX6_digest 5 = .ok (.ldc2_w 220, 3) := by decide +kernel
theorem dX6_digest_8 : decode cX6_digest 8 = .ok (.aload_n 0, 1) := by decide +kernel
theorem dX6_digest_9 : decode cX6_digest 9 = .ok (.getfield 198, 3) := by decide +kernel
theorem dX6_digest_12 : decode cX6_digest 12 = .ok (.i2l, 1) := by decide +kernel
theorem dX6_digest_13 : decode cX6_digest 13 = .ok (.ladd, 1) := by decide +kernel
theorem dX6_digest_14 : decode cX6_digest 14 = .ok (.lstore_n 1, 1) := by decide +kernel
theorem dX6_digest_15 : decode cX6_digest 15 = .ok (.iconst 0, 1) := by decide +kernel
theorem dX6_digest_16 : decode cX6_digest 16 = .ok (.istore_n 3, 1) := by decide +kernel
theorem dX6_digest_17 : decode cX6_digest 17 = .ok (.iload_n 3, 1) := by decide +kernel
theorem dX6_digest_18 : decode cX6_digest 18 = .ok (.bipush 14, 2) := by decide +kernel
theorem dX6_digest_20 : decode cX6_digest 20 = .ok (.if_icmp .ge 22, 3) := by decide +kernel
theorem dX6_digest_23 : decode cX6_digest 23 = .ok (.ldc2_w 222, 3) := by decide +kernel
theorem dX6_digest_26 : decode cX6_digest 26 = .ok (.lload_n 1, 1) := by decide +kernel
theorem dX6_digest_27 : decode cX6_digest 27 = .ok (.lmul, 1) := by decide +kernel
theorem dX6_digest_28 : decode cX6_digest 28 = .ok (.aload_n 0, 1) := by decide +kernel
theorem dX6_digest_29 : decode cX6_digest 29 = .ok (.iload_n 3, 1) := by decide +kernel
theorem dX6_digest_30 : decode cX6_digest 30 = .ok (.invokevirtual 184, 3) := by decide +kernel
theorem dX6_digest_33 : decode cX6_digest 33 = .ok (.i2l, 1) := by decide +kernel
theorem dX6_digest_34 : decode cX6_digest 34 = .ok (.ladd, 1) := by decide +kernel
theorem dX6_digest_35 : decode cX6_digest 35 = .ok (.lstore_n 1, 1) := by decide +kernel
theorem dX6_digest_36 : decode cX6_digest 36 = .ok (.iinc 3 1, 3) := by decide +kernel
theorem dX6_digest_39 : decode cX6_digest 39 = .ok (.goto (-22), 3) := by decide +kernel
theorem dX6_digest_42 : decode cX6_digest 42 = .ok (.aload_n 0, 1) := by decide +kernel
theorem dX6_digest_43 : decode cX6_digest 43 = .ok (.invokevirtual 146, 3) := by decide +kernel
theorem dX6_digest_46 : decode cX6_digest 46 = .ok (.iconst 0, 1) := by decide +kernel
theorem dX6_digest_47 : decode cX6_digest 47 = .ok (.istore_n 3, 1) := by decide +kernel
theorem dX6_digest_48 : decode cX6_digest 48 = .ok (.iload_n 3, 1) := by decide +kernel
theorem dX6_digest_49 : decode cX6_digest 49 = .ok (.aload_n 0, 1) := by decide +kernel
theorem dX6_digest_50 : decode cX6_digest 50 = .ok (.invokevirtual 45, 3) := by decide +kernel
theorem dX6_digest_53 : decode cX6_digest 53 = .ok (.if_icmp .ge 66, 3) := by decide +kernel
theorem dX6_digest_56 : decode cX6_digest 56 = .ok (.iconst 0, 1) := by decide +kernel
theorem dX6_digest_57 : decode cX6_digest 57 = .ok (.istore 4, 2) := by decide +kernel
theorem dX6_digest_59 : decode cX6_digest 59 = .ok (.iload 4, 2) := by decide +kernel
theorem dX6_digest_61 : decode cX6_digest 61 = .ok (.bipush 7, 2) := by decide +kernel
theorem dX6_digest_63 : decode cX6_digest 63 = .ok (.if_icmp .ge 24, 3) := by decide +kernel
theorem dX6_digest_66 : decode cX6_digest 66 = .ok (.ldc2_w 222, 3) := by decide +kernel
theorem dX6_digest_69 : decode cX6_digest 69 = .ok (.lload_n 1, 1) := by decide +kernel
theorem dX6_digest_70 : decode cX6_digest 70 = .ok (.lmul, 1) := by decide +kernel
theorem dX6_digest_71 : decode cX6_digest 71 = .ok (.aload_n 0, 1) := by decide +kernel
theorem dX6_digest_72 : decode cX6_digest 72 = .ok (.iload_n 3, 1) := by decide +kernel
theorem dX6_digest_73 : decode cX6_digest 73 = .ok (.iload 4, 2) := by decide +kernel
theorem dX6_digest_75 : decode cX6_digest 75 = .ok (.invokevirtual 168, 3) := by decide +kernel
theorem dX6_digest_78 : decode cX6_digest 78 = .ok (.i2l, 1) := by decide +kernel
theorem dX6_digest_79 : decode cX6_digest 79 = .ok (.ladd, 1) := by decide +kernel
theorem dX6_digest_80 : decode cX6_digest 80 = .ok (.lstore_n 1, 1) := by decide +kernel
theorem dX6_digest_81 : decode cX6_digest 81 = .ok (.iinc 4 1, 3) := by decide +kernel
theorem dX6_digest_84 : decode cX6_digest 84 = .ok (.goto (-25), 3) := by decide +kernel
theorem dX6_digest_87 : decode cX6_digest 87 = .ok (.ldc2_w 222, 3) := by decide +kernel
theorem dX6_digest_90 : decode cX6_digest 90 = .ok (.ldc2_w 222, 3) := by decide +kernel
theorem dX6_digest_93 : decode cX6_digest 93 = .ok (.lload_n 1, 1) := by decide +kernel
theorem dX6_digest_94 : decode cX6_digest 94 = .ok (.lmul, 1) := by decide +kernel
theorem dX6_digest_95 : decode cX6_digest 95 = .ok (.aload_n 0, 1) := by decide +kernel
theorem dX6_digest_96 : decode cX6_digest 96 = .ok (.iload_n 3, 1) := by decide +kernel
theorem dX6_digest_97 : decode cX6_digest 97 = .ok (.iconst 3, 1) := by decide +kernel
theorem dX6_digest_98 : decode cX6_digest 98 = .ok (.invokevirtual 173, 3) := by decide +kernel
theorem dX6_digest_101 : decode cX6_digest 101 = .ok (.i2l, 1) := by decide +kernel
theorem dX6_digest_102 : decode cX6_digest 102 = .ok (.ladd, 1) := by decide +kernel
theorem dX6_digest_103 : decode cX6_digest 103 = .ok (.lmul, 1) := by decide +kernel
theorem dX6_digest_104 : decode cX6_digest 104 = .ok (.aload_n 0, 1) := by decide +kernel
theorem dX6_digest_105 : decode cX6_digest 105 = .ok (.iload_n 3, 1) := by decide +kernel
theorem dX6_digest_106 : decode cX6_digest 106 = .ok (.iconst 4, 1) := by decide +kernel
theorem dX6_digest_107 : decode cX6_digest 107 = .ok (.invokevirtual 173, 3) := by decide +kernel
theorem dX6_digest_110 : decode cX6_digest 110 = .ok (.i2l, 1) := by decide +kernel
theorem dX6_digest_111 : decode cX6_digest 111 = .ok (.ladd, 1) := by decide +kernel
theorem dX6_digest_112 : decode cX6_digest 112 = .ok (.lstore_n 1, 1) := by decide +kernel
theorem dX6_digest_113 : decode cX6_digest 113 = .ok (.iinc 3 1, 3) := by decide +kernel
theorem dX6_digest_116 : decode cX6_digest 116 = .ok (.goto (-68), 3) := by decide +kernel
theorem dX6_digest_119 : decode cX6_digest 119 = .ok (.iconst 0, 1) := by decide +kernel
theorem dX6_digest_120 : decode cX6_digest 120 = .ok (.istore_n 3, 1) := by decide +kernel
theorem dX6_digest_121 : decode cX6_digest 121 = .ok (.iload_n 3, 1) := by decide +kernel
theorem dX6_digest_122 : decode cX6_digest 122 = .ok (.iconst 3, 1) := by decide +kernel
theorem dX6_digest_123 : decode cX6_digest 123 = .ok (.aload_n 0, 1) := by decide +kernel
theorem dX6_digest_124 : decode cX6_digest 124 = .ok (.invokevirtual 187, 3) := by decide +kernel
theorem dX6_digest_127 : decode cX6_digest 127 = .ok (.imul, 1) := by decide +kernel
theorem dX6_digest_128 : decode cX6_digest 128 = .ok (.if_icmp .ge 26, 3) := by decide +kernel
theorem dX6_digest_131 : decode cX6_digest 131 = .ok (.ldc2_w 222, 3) := by decide +kernel
theorem dX6_digest_134 : decode cX6_digest 134 = .ok (.lload_n 1, 1) := by decide +kernel
theorem dX6_digest_135 : decode cX6_digest 135 = .ok (.lmul, 1) := by decide +kernel
theorem dX6_digest_136 : decode cX6_digest 136 = .ok (.aload_n 0, 1) := by decide +kernel
theorem dX6_digest_137 : decode cX6_digest 137 = .ok (.getfield 7, 3) := by decide +kernel
theorem dX6_digest_140 : decode cX6_digest 140 = .ok (.bipush 106, 2) := by decide +kernel
theorem dX6_digest_142 : decode cX6_digest 142 = .ok (.iload_n 3, 1) := by decide +kernel
theorem dX6_digest_143 : decode cX6_digest 143 = .ok (.iadd, 1) := by decide +kernel
theorem dX6_digest_144 : decode cX6_digest 144 = .ok (.iaload, 1) := by decide +kernel
theorem dX6_digest_145 : decode cX6_digest 145 = .ok (.i2l, 1) := by decide +kernel
theorem dX6_digest_146 : decode cX6_digest 146 = .ok (.ladd, 1) := by decide +kernel
theorem dX6_digest_147 : decode cX6_digest 147 = .ok (.lstore_n 1, 1) := by decide +kernel
theorem dX6_digest_148 : decode cX6_digest 148 = .ok (.iinc 3 1, 3) := by decide +kernel
theorem dX6_digest_151 : decode cX6_digest 151 = .ok (.goto (-30), 3) := by decide +kernel
theorem dX6_digest_154 : decode cX6_digest 154 = .ok (.ldc2_w 222, 3) := by decide +kernel
theorem dX6_digest_157 : decode cX6_digest 157 = .ok (.ldc2_w 222, 3) := by decide +kernel
theorem dX6_digest_160 : decode cX6_digest 160 = .ok (.lload_n 1, 1) := by decide +kernel
theorem dX6_digest_161 : decode cX6_digest 161 = .ok (.lmul, 1) := by decide +kernel
theorem dX6_digest_162 : decode cX6_digest 162 = .ok (.aload_n 0, 1) := by decide +kernel
theorem dX6_digest_163 : decode cX6_digest 163 = .ok (.invokevirtual 190, 3) := by decide +kernel
theorem dX6_digest_166 : decode cX6_digest 166 = .ok (.i2l, 1) := by decide +kernel
theorem dX6_digest_167 : decode cX6_digest 167 = .ok (.ladd, 1) := by decide +kernel
theorem dX6_digest_168 : decode cX6_digest 168 = .ok (.lmul, 1) := by decide +kernel
theorem dX6_digest_169 : decode cX6_digest 169 = .ok (.aload_n 0, 1) := by decide +kernel
theorem dX6_digest_170 : decode cX6_digest 170 = .ok (.getfield 42, 3) := by decide +kernel
theorem dX6_digest_173 : decode cX6_digest 173 = .ok (.i2l, 1) := by decide +kernel
theorem dX6_digest_174 : decode cX6_digest 174 = .ok (.ladd, 1) := by decide +kernel
theorem dX6_digest_175 : decode cX6_digest 175 = .ok (.lreturn, 1) := by decide +kernel
theorem dL_make_0 : decode cL_make 0 = .ok (.aload 4, 2) := by decide +kernel
theorem dL_make_2 : decode cL_make 2 = .ok (.iconst 0, 1) := by decide +kernel
theorem dL_make_3 : decode cL_make 3 = .ok (.aload_n 0, 1) := by decide +kernel
theorem dL_make_4 : decode cL_make 4 = .ok (.iload_n 1, 1) := by decide +kernel
theorem dL_make_5 : decode cL_make 5 = .ok (.iload_n 2, 1) := by decide +kernel
theorem dL_make_6 : decode cL_make 6 = .ok (.iload_n 3, 1) := by decide +kernel
theorem dL_make_7 : decode cL_make 7 = .ok (.invokevirtual 7, 3) := by decide +kernel
theorem dL_make_10 : decode cL_make 10 = .ok (.i2l, 1) := by decide +kernel
theorem dL_make_11 : decode cL_make 11 = .ok (.lastore, 1) := by decide +kernel
theorem dL_make_12 : decode cL_make 12 = .ok (.goto 7, 3) := by decide +kernel
theorem dL_make_15 : decode cL_make 15 = .ok (.astore 5, 2) := by decide +kernel
theorem dL_make_17 : decode cL_make 17 = .ok (.iconst 1, 1) := by decide +kernel
theorem dL_make_18 : decode cL_make 18 = .ok (.ireturn, 1) := by decide +kernel
theorem dL_make_19 : decode cL_make 19 = .ok (.iconst 0, 1) := by decide +kernel
theorem dL_make_20 : decode cL_make 20 = .ok (.ireturn, 1) := by decide +kernel
theorem dL_lay_0 : decode cL_lay 0 = .ok (.aload_n 3, 1) := by decide +kernel
theorem dL_lay_1 : decode cL_lay 1 = .ok (.iconst 0, 1) := by decide +kernel
theorem dL_lay_2 : decode cL_lay 2 = .ok (.aload_n 0, 1) := by decide +kernel
theorem dL_lay_3 : decode cL_lay 3 = .ok (.iload_n 1, 1) := by decide +kernel
theorem dL_lay_4 : decode cL_lay 4 = .ok (.iload_n 2, 1) := by decide +kernel
theorem dL_lay_5 : decode cL_lay 5 = .ok (.invokevirtual 15, 3) := by decide +kernel
theorem dL_lay_8 : decode cL_lay 8 = .ok (.i2l, 1) := by decide +kernel
theorem dL_lay_9 : decode cL_lay 9 = .ok (.lastore, 1) := by decide +kernel
theorem dL_lay_10 : decode cL_lay 10 = .ok (.goto 15, 3) := by decide +kernel
theorem dL_lay_13 : decode cL_lay 13 = .ok (.astore 4, 2) := by decide +kernel
theorem dL_lay_15 : decode cL_lay 15 = .ok (.iconst 1, 1) := by decide +kernel
theorem dL_lay_16 : decode cL_lay 16 = .ok (.ireturn, 1) := by decide +kernel
theorem dL_lay_17 : decode cL_lay 17 = .ok (.astore 4, 2) := by decide +kernel
theorem dL_lay_19 : decode cL_lay 19 = .ok (.iconst 2, 1) := by decide +kernel
theorem dL_lay_20 : decode cL_lay 20 = .ok (.ireturn, 1) := by decide +kernel
theorem dL_lay_21 : decode cL_lay 21 = .ok (.astore 4, 2) := by decide +kernel
theorem dL_lay_23 : decode cL_lay 23 = .ok (.iconst 3, 1) := by decide +kernel
theorem dL_lay_24 : decode cL_lay 24 = .ok (.ireturn, 1) := by decide +kernel
theorem dL_lay_25 : decode cL_lay 25 = .ok (.iconst 0, 1) := by decide +kernel
theorem dL_lay_26 : decode cL_lay 26 = .ok (.ireturn, 1) := by decide +kernel
theorem dL_saw_0 : decode cL_saw 0 = .ok (.aload_n 3, 1) := by decide +kernel
theorem dL_saw_1 : decode cL_saw 1 = .ok (.iconst 0, 1) := by decide +kernel
theorem dL_saw_2 : decode cL_saw 2 = .ok (.aload_n 0, 1) := by decide +kernel
theorem dL_saw_3 : decode cL_saw 3 = .ok (.iload_n 1, 1) := by decide +kernel
theorem dL_saw_4 : decode cL_saw 4 = .ok (.iload_n 2, 1) := by decide +kernel
theorem dL_saw_5 : decode cL_saw 5 = .ok (.invokevirtual 23, 3) := by decide +kernel
theorem dL_saw_8 : decode cL_saw 8 = .ok (.i2l, 1) := by decide +kernel
theorem dL_saw_9 : decode cL_saw 9 = .ok (.lastore, 1) := by decide +kernel
theorem dL_saw_10 : decode cL_saw 10 = .ok (.goto 15, 3) := by decide +kernel
theorem dL_saw_13 : decode cL_saw 13 = .ok (.astore 4, 2) := by decide +kernel
theorem dL_saw_15 : decode cL_saw 15 = .ok (.iconst 1, 1) := by decide +kernel
theorem dL_saw_16 : decode cL_saw 16 = .ok (.ireturn, 1) := by decide +kernel
theorem dL_saw_17 : decode cL_saw 17 = .ok (.astore 4, 2) := by decide +kernel
theorem dL_saw_19 : decode cL_saw 19 = .ok (.iconst 2, 1) := by decide +kernel
theorem dL_saw_20 : decode cL_saw 20 = .ok (.ireturn, 1) := by decide +kernel
theorem dL_saw_21 : decode cL_saw 21 = .ok (.astore 4, 2) := by decide +kernel
theorem dL_saw_23 : decode cL_saw 23 = .ok (.iconst 3, 1) := by decide +kernel
theorem dL_saw_24 : decode cL_saw 24 = .ok (.ireturn, 1) := by decide +kernel
theorem dL_saw_25 : decode cL_saw 25 = .ok (.iconst 0, 1) := by decide +kernel
theorem dL_saw_26 : decode cL_saw 26 = .ok (.ireturn, 1) := by decide +kernel
theorem dL_sawAround_0 : decode cL_sawAround 0 = .ok (.aload 4, 2) := by decide +kernel
theorem dL_sawAround_2 : decode cL_sawAround 2 = .ok (.iconst 0, 1) := by decide +kernel
theorem dL_sawAround_3 : decode cL_sawAround 3 = .ok (.aload_n 0, 1) := by decide +kernel
theorem dL_sawAround_4 : decode cL_sawAround 4 = .ok (.iload_n 1, 1) := by decide +kernel
theorem dL_sawAround_5 : decode cL_sawAround 5 = .ok (.iload_n 2, 1) := by decide +kernel
theorem dL_sawAround_6 : decode cL_sawAround 6 = .ok (.iload_n 3, 1) := by decide +kernel
theorem dL_sawAround_7 : decode cL_sawAround 7 = .ok (.invokevirtual 26, 3) := by decide +kernel
theorem dL_sawAround_10 : decode cL_sawAround 10 = .ok (.i2l, 1) := by decide +kernel
theorem dL_sawAround_11 : decode cL_sawAround 11 = .ok (.lastore, 1) := by decide +kernel
theorem dL_sawAround_12 : decode cL_sawAround 12 = .ok (.goto 11, 3) := by decide +kernel
theorem dL_sawAround_15 : decode cL_sawAround 15 = .ok (.astore 5, 2) := by decide +kernel
theorem dL_sawAround_17 : decode cL_sawAround 17 = .ok (.iconst 1, 1) := by decide +kernel
theorem dL_sawAround_18 : decode cL_sawAround 18 = .ok (.ireturn, 1) := by decide +kernel
theorem dL_sawAround_19 : decode cL_sawAround 19 = .ok (.astore 5, 2) := by decide +kernel
theorem dL_sawAround_21 : decode cL_sawAround 21 = .ok (.iconst 2, 1) := by decide +kernel
theorem dL_sawAround_22 : decode cL_sawAround 22 = .ok (.ireturn, 1) := by decide +kernel
theorem dL_sawAround_23 : decode cL_sawAround 23 = .ok (.iconst 0, 1) := by decide +kernel
theorem dL_sawAround_24 : decode cL_sawAround 24 = .ok (.ireturn, 1) := by decide +kernel
theorem dL_takeOut_0 : decode cL_takeOut 0 = .ok (.aload_n 2, 1) := by decide +kernel
theorem dL_takeOut_1 : decode cL_takeOut 1 = .ok (.iconst 0, 1) := by decide +kernel
theorem dL_takeOut_2 : decode cL_takeOut 2 = .ok (.aload_n 0, 1) := by decide +kernel
theorem dL_takeOut_3 : decode cL_takeOut 3 = .ok (.iload_n 1, 1) := by decide +kernel
theorem dL_takeOut_4 : decode cL_takeOut 4 = .ok (.invokevirtual 29, 3) := by decide +kernel
theorem dL_takeOut_7 : decode cL_takeOut 7 = .ok (.i2l, 1) := by decide +kernel
theorem dL_takeOut_8 : decode cL_takeOut 8 = .ok (.lastore, 1) := by decide +kernel
theorem dL_takeOut_9 : decode cL_takeOut 9 = .ok (.goto 9, 3) := by decide +kernel
theorem dL_takeOut_12 : decode cL_takeOut 12 = .ok (.astore_n 3, 1) := by decide +kernel
theorem dL_takeOut_13 : decode cL_takeOut 13 = .ok (.iconst 1, 1) := by decide +kernel
theorem dL_takeOut_14 : decode cL_takeOut 14 = .ok (.ireturn, 1) := by decide +kernel
theorem dL_takeOut_15 : decode cL_takeOut 15 = .ok (.astore_n 3, 1) := by decide +kernel
theorem dL_takeOut_16 : decode cL_takeOut 16 = .ok (.iconst 2, 1) := by decide +kernel
theorem dL_takeOut_17 : decode cL_takeOut 17 = .ok (.ireturn, 1) := by decide +kernel
theorem dL_takeOut_18 : decode cL_takeOut 18 = .ok (.iconst 0, 1) := by decide +kernel
theorem dL_takeOut_19 : decode cL_takeOut 19 = .ok (.ireturn, 1) := by decide +kernel
theorem dL_setMelt_0 : decode cL_setMelt 0 = .ok (.aload_n 2, 1) := by decide +kernel
theorem dL_setMelt_1 : decode cL_setMelt 1 = .ok (.iconst 0, 1) := by decide +kernel
theorem dL_setMelt_2 : decode cL_setMelt 2 = .ok (.aload_n 0, 1) := by decide +kernel
theorem dL_setMelt_3 : decode cL_setMelt 3 = .ok (.iload_n 1, 1) := by decide +kernel
theorem dL_setMelt_4 : decode cL_setMelt 4 = .ok (.invokevirtual 33, 3) := by decide +kernel
theorem dL_setMelt_7 : decode cL_setMelt 7 = .ok (.i2l, 1) := by decide +kernel
theorem dL_setMelt_8 : decode cL_setMelt 8 = .ok (.lastore, 1) := by decide +kernel
theorem dL_setMelt_9 : decode cL_setMelt 9 = .ok (.goto 6, 3) := by decide +kernel
theorem dL_setMelt_12 : decode cL_setMelt 12 = .ok (.astore_n 3, 1) := by decide +kernel
theorem dL_setMelt_13 : decode cL_setMelt 13 = .ok (.iconst 1, 1) := by decide +kernel
theorem dL_setMelt_14 : decode cL_setMelt 14 = .ok (.ireturn, 1) := by decide +kernel
theorem dL_setMelt_15 : decode cL_setMelt 15 = .ok (.iconst 0, 1) := by decide +kernel
theorem dL_setMelt_16 : decode cL_setMelt 16 = .ok (.ireturn, 1) := by decide +kernel
theorem dL_pass_0 : decode cL_pass 0 = .ok (.aload_n 2, 1) := by decide +kernel
theorem dL_pass_1 : decode cL_pass 1 = .ok (.iconst 0, 1) := by decide +kernel
theorem dL_pass_2 : decode cL_pass 2 = .ok (.aload_n 0, 1) := by decide +kernel
theorem dL_pass_3 : decode cL_pass 3 = .ok (.iload_n 1, 1) := by decide +kernel
theorem dL_pass_4 : decode cL_pass 4 = .ok (.invokevirtual 36, 3) := by decide +kernel
theorem dL_pass_7 : decode cL_pass 7 = .ok (.i2l, 1) := by decide +kernel
theorem dL_pass_8 : decode cL_pass 8 = .ok (.lastore, 1) := by decide +kernel
theorem dL_pass_9 : decode cL_pass 9 = .ok (.goto 6, 3) := by decide +kernel
theorem dL_pass_12 : decode cL_pass 12 = .ok (.astore_n 3, 1) := by decide +kernel
theorem dL_pass_13 : decode cL_pass 13 = .ok (.iconst 1, 1) := by decide +kernel
theorem dL_pass_14 : decode cL_pass 14 = .ok (.ireturn, 1) := by decide +kernel
theorem dL_pass_15 : decode cL_pass 15 = .ok (.iconst 0, 1) := by decide +kernel
theorem dL_pass_16 : decode cL_pass 16 = .ok (.ireturn, 1) := by decide +kernel
theorem dL_cell_0 : decode cL_cell 0 = .ok (.aload_n 3, 1) := by decide +kernel
theorem dL_cell_1 : decode cL_cell 1 = .ok (.iconst 0, 1) := by decide +kernel
theorem dL_cell_2 : decode cL_cell 2 = .ok (.aload_n 0, 1) := by decide +kernel
theorem dL_cell_3 : decode cL_cell 3 = .ok (.iload_n 1, 1) := by decide +kernel
theorem dL_cell_4 : decode cL_cell 4 = .ok (.iload_n 2, 1) := by decide +kernel
theorem dL_cell_5 : decode cL_cell 5 = .ok (.invokevirtual 39, 3) := by decide +kernel
theorem dL_cell_8 : decode cL_cell 8 = .ok (.i2l, 1) := by decide +kernel
theorem dL_cell_9 : decode cL_cell 9 = .ok (.lastore, 1) := by decide +kernel
theorem dL_cell_10 : decode cL_cell 10 = .ok (.goto 11, 3) := by decide +kernel
theorem dL_cell_13 : decode cL_cell 13 = .ok (.astore 4, 2) := by decide +kernel
theorem dL_cell_15 : decode cL_cell 15 = .ok (.iconst 1, 1) := by decide +kernel
theorem dL_cell_16 : decode cL_cell 16 = .ok (.ireturn, 1) := by decide +kernel
theorem dL_cell_17 : decode cL_cell 17 = .ok (.astore 4, 2) := by decide +kernel
theorem dL_cell_19 : decode cL_cell 19 = .ok (.iconst 2, 1) := by decide +kernel
theorem dL_cell_20 : decode cL_cell 20 = .ok (.ireturn, 1) := by decide +kernel
theorem dL_cell_21 : decode cL_cell 21 = .ok (.iconst 0, 1) := by decide +kernel
theorem dL_cell_22 : decode cL_cell 22 = .ok (.ireturn, 1) := by decide +kernel
theorem dL_block_0 : decode cL_block 0 = .ok (.aload_n 3, 1) := by decide +kernel
theorem dL_block_1 : decode cL_block 1 = .ok (.iconst 0, 1) := by decide +kernel
theorem dL_block_2 : decode cL_block 2 = .ok (.aload_n 0, 1) := by decide +kernel
theorem dL_block_3 : decode cL_block 3 = .ok (.iload_n 1, 1) := by decide +kernel
theorem dL_block_4 : decode cL_block 4 = .ok (.iload_n 2, 1) := by decide +kernel
theorem dL_block_5 : decode cL_block 5 = .ok (.invokevirtual 42, 3) := by decide +kernel
theorem dL_block_8 : decode cL_block 8 = .ok (.i2l, 1) := by decide +kernel
theorem dL_block_9 : decode cL_block 9 = .ok (.lastore, 1) := by decide +kernel
theorem dL_block_10 : decode cL_block 10 = .ok (.goto 11, 3) := by decide +kernel
theorem dL_block_13 : decode cL_block 13 = .ok (.astore 4, 2) := by decide +kernel
theorem dL_block_15 : decode cL_block 15 = .ok (.iconst 1, 1) := by decide +kernel
theorem dL_block_16 : decode cL_block 16 = .ok (.ireturn, 1) := by decide +kernel
theorem dL_block_17 : decode cL_block 17 = .ok (.astore 4, 2) := by decide +kernel
theorem dL_block_19 : decode cL_block 19 = .ok (.iconst 2, 1) := by decide +kernel
theorem dL_block_20 : decode cL_block 20 = .ok (.ireturn, 1) := by decide +kernel
theorem dL_block_21 : decode cL_block 21 = .ok (.iconst 0, 1) := by decide +kernel
theorem dL_block_22 : decode cL_block 22 = .ok (.ireturn, 1) := by decide +kernel
theorem dL_move_0 : decode cL_move 0 = .ok (.aload_n 3, 1) := by decide +kernel
theorem dL_move_1 : decode cL_move 1 = .ok (.iconst 0, 1) := by decide +kernel
theorem dL_move_2 : decode cL_move 2 = .ok (.aload_n 0, 1) := by decide +kernel
theorem dL_move_3 : decode cL_move 3 = .ok (.iload_n 1, 1) := by decide +kernel
theorem dL_move_4 : decode cL_move 4 = .ok (.iload_n 2, 1) := by decide +kernel
theorem dL_move_5 : decode cL_move 5 = .ok (.invokevirtual 45, 3) := by decide +kernel
theorem dL_move_8 : decode cL_move 8 = .ok (.i2l, 1) := by decide +kernel
theorem dL_move_9 : decode cL_move 9 = .ok (.lastore, 1) := by decide +kernel
theorem dL_move_10 : decode cL_move 10 = .ok (.goto 7, 3) := by decide +kernel
theorem dL_move_13 : decode cL_move 13 = .ok (.astore 4, 2) := by decide +kernel
theorem dL_move_15 : decode cL_move 15 = .ok (.iconst 1, 1) := by decide +kernel
theorem dL_move_16 : decode cL_move 16 = .ok (.ireturn, 1) := by decide +kernel
theorem dL_move_17 : decode cL_move 17 = .ok (.iconst 0, 1) := by decide +kernel
theorem dL_move_18 : decode cL_move 18 = .ok (.ireturn, 1) := by decide +kernel
theorem dL_value_0 : decode cL_value 0 = .ok (.aload_n 2, 1) := by decide +kernel
theorem dL_value_1 : decode cL_value 1 = .ok (.iconst 0, 1) := by decide +kernel
theorem dL_value_2 : decode cL_value 2 = .ok (.aload_n 0, 1) := by decide +kernel
theorem dL_value_3 : decode cL_value 3 = .ok (.iload_n 1, 1) := by decide +kernel
theorem dL_value_4 : decode cL_value 4 = .ok (.invokevirtual 48, 3) := by decide +kernel
theorem dL_value_7 : decode cL_value 7 = .ok (.i2l, 1) := by decide +kernel
theorem dL_value_8 : decode cL_value 8 = .ok (.lastore, 1) := by decide +kernel
theorem dL_value_9 : decode cL_value 9 = .ok (.goto 6, 3) := by decide +kernel
theorem dL_value_12 : decode cL_value 12 = .ok (.astore_n 3, 1) := by decide +kernel
theorem dL_value_13 : decode cL_value 13 = .ok (.iconst 1, 1) := by decide +kernel
theorem dL_value_14 : decode cL_value 14 = .ok (.ireturn, 1) := by decide +kernel
theorem dL_value_15 : decode cL_value 15 = .ok (.iconst 0, 1) := by decide +kernel
theorem dL_value_16 : decode cL_value 16 = .ok (.ireturn, 1) := by decide +kernel
theorem dL_taken_0 : decode cL_taken 0 = .ok (.aload_n 3, 1) := by decide +kernel
theorem dL_taken_1 : decode cL_taken 1 = .ok (.iconst 0, 1) := by decide +kernel
theorem dL_taken_2 : decode cL_taken 2 = .ok (.aload_n 0, 1) := by decide +kernel
theorem dL_taken_3 : decode cL_taken 3 = .ok (.iload_n 1, 1) := by decide +kernel
theorem dL_taken_4 : decode cL_taken 4 = .ok (.iload_n 2, 1) := by decide +kernel
theorem dL_taken_5 : decode cL_taken 5 = .ok (.invokevirtual 51, 3) := by decide +kernel
theorem dL_taken_8 : decode cL_taken 8 = .ok (.i2l, 1) := by decide +kernel
theorem dL_taken_9 : decode cL_taken 9 = .ok (.lastore, 1) := by decide +kernel
theorem dL_taken_10 : decode cL_taken 10 = .ok (.goto 11, 3) := by decide +kernel
theorem dL_taken_13 : decode cL_taken 13 = .ok (.astore 4, 2) := by decide +kernel
theorem dL_taken_15 : decode cL_taken 15 = .ok (.iconst 1, 1) := by decide +kernel
theorem dL_taken_16 : decode cL_taken 16 = .ok (.ireturn, 1) := by decide +kernel
theorem dL_taken_17 : decode cL_taken 17 = .ok (.astore 4, 2) := by decide +kernel
theorem dL_taken_19 : decode cL_taken 19 = .ok (.iconst 2, 1) := by decide +kernel
theorem dL_taken_20 : decode cL_taken 20 = .ok (.ireturn, 1) := by decide +kernel
theorem dL_taken_21 : decode cL_taken 21 = .ok (.iconst 0, 1) := by decide +kernel
theorem dL_taken_22 : decode cL_taken 22 = .ok (.ireturn, 1) := by decide +kernel
theorem dL_cutsAround_0 : decode cL_cutsAround 0 = .ok (.aload 4, 2) := by decide +kernel
theorem dL_cutsAround_2 : decode cL_cutsAround 2 = .ok (.iconst 0, 1) := by decide +kernel
theorem dL_cutsAround_3 : decode cL_cutsAround 3 = .ok (.aload_n 0, 1) := by decide +kernel
theorem dL_cutsAround_4 : decode cL_cutsAround 4 = .ok (.iload_n 1, 1) := by decide +kernel
theorem dL_cutsAround_5 : decode cL_cutsAround 5 = .ok (.iload_n 2, 1) := by decide +kernel
theorem dL_cutsAround_6 : decode cL_cutsAround 6 = .ok (.iload_n 3, 1) := by decide +kernel
theorem dL_cutsAround_7 : decode cL_cutsAround 7 = .ok (.invokevirtual 54, 3) := by decide +kernel
theorem dL_cutsAround_10 : decode cL_cutsAround 10 = .ok (.i2l, 1) := by decide +kernel
theorem dL_cutsAround_11 : decode cL_cutsAround 11 = .ok (.lastore, 1) := by decide +kernel
theorem dL_cutsAround_12 : decode cL_cutsAround 12 = .ok (.goto 11, 3) := by decide +kernel
theorem dL_cutsAround_15 : decode cL_cutsAround 15 = .ok (.astore 5, 2) := by decide +kernel
theorem dL_cutsAround_17 : decode cL_cutsAround 17 = .ok (.iconst 1, 1) := by decide +kernel
theorem dL_cutsAround_18 : decode cL_cutsAround 18 = .ok (.ireturn, 1) := by decide +kernel
theorem dL_cutsAround_19 : decode cL_cutsAround 19 = .ok (.astore 5, 2) := by decide +kernel
theorem dL_cutsAround_21 : decode cL_cutsAround 21 = .ok (.iconst 2, 1) := by decide +kernel
theorem dL_cutsAround_22 : decode cL_cutsAround 22 = .ok (.ireturn, 1) := by decide +kernel
theorem dL_cutsAround_23 : decode cL_cutsAround 23 = .ok (.iconst 0, 1) := by decide +kernel
theorem dL_cutsAround_24 : decode cL_cutsAround 24 = .ok (.ireturn, 1) := by decide +kernel
theorem dL_daysWhole_0 : decode cL_daysWhole 0 = .ok (.aload_n 2, 1) := by decide +kernel
theorem dL_daysWhole_1 : decode cL_daysWhole 1 = .ok (.iconst 0, 1) := by decide +kernel
theorem dL_daysWhole_2 : decode cL_daysWhole 2 = .ok (.aload_n 0, 1) := by decide +kernel
theorem dL_daysWhole_3 : decode cL_daysWhole 3 = .ok (.iload_n 1, 1) := by decide +kernel
theorem dL_daysWhole_4 : decode cL_daysWhole 4 = .ok (.invokevirtual 57, 3) := by decide +kernel
theorem dL_daysWhole_7 : decode cL_daysWhole 7 = .ok (.i2l, 1) := by decide +kernel
theorem dL_daysWhole_8 : decode cL_daysWhole 8 = .ok (.lastore, 1) := by decide +kernel
theorem dL_daysWhole_9 : decode cL_daysWhole 9 = .ok (.goto 6, 3) := by decide +kernel
theorem dL_daysWhole_12 : decode cL_daysWhole 12 = .ok (.astore_n 3, 1) := by decide +kernel
theorem dL_daysWhole_13 : decode cL_daysWhole 13 = .ok (.iconst 1, 1) := by decide +kernel
theorem dL_daysWhole_14 : decode cL_daysWhole 14 = .ok (.ireturn, 1) := by decide +kernel
theorem dL_daysWhole_15 : decode cL_daysWhole 15 = .ok (.iconst 0, 1) := by decide +kernel
theorem dL_daysWhole_16 : decode cL_daysWhole 16 = .ok (.ireturn, 1) := by decide +kernel
theorem dL_append_0 : decode cL_append 0 = .ok (.aload_n 2, 1) := by decide +kernel
theorem dL_append_1 : decode cL_append 1 = .ok (.iconst 0, 1) := by decide +kernel
theorem dL_append_2 : decode cL_append 2 = .ok (.aload_n 0, 1) := by decide +kernel
theorem dL_append_3 : decode cL_append 3 = .ok (.iload_n 1, 1) := by decide +kernel
theorem dL_append_4 : decode cL_append 4 = .ok (.invokevirtual 60, 3) := by decide +kernel
theorem dL_append_7 : decode cL_append 7 = .ok (.i2l, 1) := by decide +kernel
theorem dL_append_8 : decode cL_append 8 = .ok (.lastore, 1) := by decide +kernel
theorem dL_append_9 : decode cL_append 9 = .ok (.goto 9, 3) := by decide +kernel
theorem dL_append_12 : decode cL_append 12 = .ok (.astore_n 3, 1) := by decide +kernel
theorem dL_append_13 : decode cL_append 13 = .ok (.iconst 1, 1) := by decide +kernel
theorem dL_append_14 : decode cL_append 14 = .ok (.ireturn, 1) := by decide +kernel
theorem dL_append_15 : decode cL_append 15 = .ok (.astore_n 3, 1) := by decide +kernel
theorem dL_append_16 : decode cL_append 16 = .ok (.iconst 2, 1) := by decide +kernel
theorem dL_append_17 : decode cL_append 17 = .ok (.ireturn, 1) := by decide +kernel
theorem dL_append_18 : decode cL_append 18 = .ok (.iconst 0, 1) := by decide +kernel
theorem dL_append_19 : decode cL_append 19 = .ok (.ireturn, 1) := by decide +kernel
theorem dL_undo_0 : decode cL_undo 0 = .ok (.aload_n 1, 1) := by decide +kernel
theorem dL_undo_1 : decode cL_undo 1 = .ok (.iconst 0, 1) := by decide +kernel
theorem dL_undo_2 : decode cL_undo 2 = .ok (.aload_n 0, 1) := by decide +kernel
theorem dL_undo_3 : decode cL_undo 3 = .ok (.invokevirtual 63, 3) := by decide +kernel
theorem dL_undo_6 : decode cL_undo 6 = .ok (.i2l, 1) := by decide +kernel
theorem dL_undo_7 : decode cL_undo 7 = .ok (.lastore, 1) := by decide +kernel
theorem dL_undo_8 : decode cL_undo 8 = .ok (.goto 6, 3) := by decide +kernel
theorem dL_undo_11 : decode cL_undo 11 = .ok (.astore_n 2, 1) := by decide +kernel
theorem dL_undo_12 : decode cL_undo 12 = .ok (.iconst 1, 1) := by decide +kernel
theorem dL_undo_13 : decode cL_undo 13 = .ok (.ireturn, 1) := by decide +kernel
theorem dL_undo_14 : decode cL_undo 14 = .ok (.iconst 0, 1) := by decide +kernel
theorem dL_undo_15 : decode cL_undo 15 = .ok (.ireturn, 1) := by decide +kernel
theorem dL_law_0 : decode cL_law 0 = .ok (.new 8, 3) := by decide +kernel
theorem dL_law_3 : decode cL_law 3 = .ok (.dup, 1) := by decide +kernel
theorem dL_law_4 : decode cL_law 4 = .ok (.invokespecial 67, 3) := by decide +kernel
theorem dL_law_7 : decode cL_law 7 = .ok (.astore_n 1, 1) := by decide +kernel
theorem dL_law_8 : decode cL_law 8 = .ok (.new 68, 3) := by decide +kernel
theorem dL_law_11 : decode cL_law 11 = .ok (.dup, 1) := by decide +kernel
theorem dL_law_12 : decode cL_law 12 = .ok (.invokespecial 70, 3) := by decide +kernel
theorem dL_law_15 : decode cL_law 15 = .ok (.astore_n 2, 1) := by decide +kernel
theorem dL_law_16 : decode cL_law 16 = .ok (.iconst 1, 1) := by decide +kernel
theorem dL_law_17 : decode cL_law 17 = .ok (.newarray .long, 2) := by decide +kernel
theorem dL_law_19 : decode cL_law 19 = .ok (.astore_n 3, 1) := by decide +kernel
theorem dL_law_20 : decode cL_law 20 = .ok (.iconst 0, 1) := by decide +kernel
theorem dL_law_21 : decode cL_law 21 = .ok (.istore 4, 2) := by decide +kernel
theorem dL_law_23 : decode cL_law 23 = .ok (.iload 4, 2) := by decide +kernel
theorem dL_law_25 : decode cL_law 25 = .ok (.aload_n 0, 1) := by decide +kernel
theorem dL_law_26 : decode cL_law 26 = .ok (.arraylength, 1) := by decide +kernel
theorem dL_law_27 : decode cL_law 27 = .ok (.iconst 4, 1) := by decide +kernel
theorem dL_law_28 : decode cL_law 28 = .ok (.isub, 1) := by decide +kernel
theorem dL_law_29 : decode cL_law 29 = .ok (.if_icmp .gt 1303, 3) := by decide +kernel
theorem dL_law_32 : decode cL_law 32 = .ok (.aload_n 0, 1) := by decide +kernel
theorem dL_law_33 : decode cL_law 33 = .ok (.iload 4, 2) := by decide +kernel
theorem dL_law_35 : decode cL_law 35 = .ok (.iaload, 1) := by decide +kernel
theorem dL_law_36 : decode cL_law 36 = .ok (.bipush 31, 2) := by decide +kernel
theorem dL_law_38 : decode cL_law 38 = .ok (.iand, 1) := by decide +kernel
theorem dL_law_39 : decode cL_law 39 = .ok (.tableswitch 1287 0 24 #[113, 193, 261, 329, 409, 465, 478, 534, 590, 658, 726, 794, 850, 918, 998, 1011, 1024, 1080, 1093, 1106, 1147, 1203, 1216, 1229, 1273], 113) := by decide +kernel
theorem dL_law_152 : decode cL_law 152 = .ok (.aload_n 1, 1) := by decide +kernel
theorem dL_law_153 : decode cL_law 153 = .ok (.aload_n 0, 1) := by decide +kernel
theorem dL_law_154 : decode cL_law 154 = .ok (.iload 4, 2) := by decide +kernel
theorem dL_law_156 : decode cL_law 156 = .ok (.iconst 1, 1) := by decide +kernel
theorem dL_law_157 : decode cL_law 157 = .ok (.iadd, 1) := by decide +kernel
theorem dL_law_158 : decode cL_law 158 = .ok (.iaload, 1) := by decide +kernel
theorem dL_law_159 : decode cL_law 159 = .ok (.aload_n 0, 1) := by decide +kernel
theorem dL_law_160 : decode cL_law 160 = .ok (.iload 4, 2) := by decide +kernel
theorem dL_law_162 : decode cL_law 162 = .ok (.iconst 2, 1) := by decide +kernel
theorem dL_law_163 : decode cL_law 163 = .ok (.iadd, 1) := by decide +kernel
theorem dL_law_164 : decode cL_law 164 = .ok (.iaload, 1) := by decide +kernel
theorem dL_law_165 : decode cL_law 165 = .ok (.aload_n 0, 1) := by decide +kernel
theorem dL_law_166 : decode cL_law 166 = .ok (.iload 4, 2) := by decide +kernel
theorem dL_law_168 : decode cL_law 168 = .ok (.iconst 3, 1) := by decide +kernel
theorem dL_law_169 : decode cL_law 169 = .ok (.iadd, 1) := by decide +kernel
theorem dL_law_170 : decode cL_law 170 = .ok (.iaload, 1) := by decide +kernel
theorem dL_law_171 : decode cL_law 171 = .ok (.aload_n 3, 1) := by decide +kernel
theorem dL_law_172 : decode cL_law 172 = .ok (.invokestatic 71, 3) := by decide +kernel
theorem dL_law_175 : decode cL_law 175 = .ok (.istore 5, 2) := by decide +kernel
theorem dL_law_177 : decode cL_law 177 = .ok (.aload_n 2, 1) := by decide +kernel
theorem dL_law_178 : decode cL_law 178 = .ok (.aload_n 0, 1) := by decide +kernel
theorem dL_law_179 : decode cL_law 179 = .ok (.iload 4, 2) := by decide +kernel
theorem dL_law_181 : decode cL_law 181 = .ok (.iconst 1, 1) := by decide +kernel
theorem dL_law_182 : decode cL_law 182 = .ok (.iadd, 1) := by decide +kernel
theorem dL_law_183 : decode cL_law 183 = .ok (.iaload, 1) := by decide +kernel
theorem dL_law_184 : decode cL_law 184 = .ok (.aload_n 0, 1) := by decide +kernel
theorem dL_law_185 : decode cL_law 185 = .ok (.iload 4, 2) := by decide +kernel
theorem dL_law_187 : decode cL_law 187 = .ok (.iconst 2, 1) := by decide +kernel
theorem dL_law_188 : decode cL_law 188 = .ok (.iadd, 1) := by decide +kernel
theorem dL_law_189 : decode cL_law 189 = .ok (.iaload, 1) := by decide +kernel
theorem dL_law_190 : decode cL_law 190 = .ok (.aload_n 0, 1) := by decide +kernel
theorem dL_law_191 : decode cL_law 191 = .ok (.iload 4, 2) := by decide +kernel
theorem dL_law_193 : decode cL_law 193 = .ok (.iconst 3, 1) := by decide +kernel
theorem dL_law_194 : decode cL_law 194 = .ok (.iadd, 1) := by decide +kernel
theorem dL_law_195 : decode cL_law 195 = .ok (.iaload, 1) := by decide +kernel
theorem dL_law_196 : decode cL_law 196 = .ok (.invokevirtual 76, 3) := by decide +kernel
theorem dL_law_199 : decode cL_law 199 = .ok (.istore 6, 2) := by decide +kernel
theorem dL_law_201 : decode cL_law 201 = .ok (.aload_n 2, 1) := by decide +kernel
theorem dL_law_202 : decode cL_law 202 = .ok (.invokevirtual 77, 3) := by decide +kernel
theorem dL_law_205 : decode cL_law 205 = .ok (.iload 5, 2) := by decide +kernel
theorem dL_law_207 : decode cL_law 207 = .ok (.if_icmp .eq 5, 3) := by decide +kernel
theorem dL_law_210 : decode cL_law 210 = .ok (.iconst 0, 1) := by decide +kernel
theorem dL_law_211 : decode cL_law 211 = .ok (.ireturn, 1) := by decide +kernel
theorem dL_law_212 : decode cL_law 212 = .ok (.iload 5, 2) := by decide +kernel
theorem dL_law_214 : decode cL_law 214 = .ok (.ifCond .ne 15, 3) := by decide +kernel
theorem dL_law_217 : decode cL_law 217 = .ok (.aload_n 3, 1) := by decide +kernel
theorem dL_law_218 : decode cL_law 218 = .ok (.iconst 0, 1) := by decide +kernel
theorem dL_law_219 : decode cL_law 219 = .ok (.laload, 1) := by decide +kernel
theorem dL_law_220 : decode cL_law 220 = .ok (.iload 6, 2) := by decide +kernel
theorem dL_law_222 : decode cL_law 222 = .ok (.i2l, 1) := by decide +kernel
theorem dL_law_223 : decode cL_law 223 = .ok (.lcmp, 1) := by decide +kernel
theorem dL_law_224 : decode cL_law 224 = .ok (.ifCond .eq 5, 3) := by decide +kernel
theorem dL_law_227 : decode cL_law 227 = .ok (.iconst 0, 1) := by decide +kernel
theorem dL_law_228 : decode cL_law 228 = .ok (.ireturn, 1) := by decide +kernel
theorem dL_law_229 : decode cL_law 229 = .ok (.goto 1097, 3) := by decide +kernel
theorem dL_law_232 : decode cL_law 232 = .ok (.aload_n 1, 1) := by decide +kernel
theorem dL_law_233 : decode cL_law 233 = .ok (.aload_n 0, 1) := by decide +kernel
theorem dL_law_234 : decode cL_law 234 = .ok (.iload 4, 2) := by decide +kernel
theorem dL_law_236 : decode cL_law 236 = .ok (.iconst 1, 1) := by decide +kernel
theorem dL_law_237 : decode cL_law 237 = .ok (.iadd, 1) := by decide +kernel
theorem dL_law_238 : decode cL_law 238 = .ok (.iaload, 1) := by decide +kernel
theorem dL_law_239 : decode cL_law 239 = .ok (.aload_n 0, 1) := by decide +kernel
theorem dL_law_240 : decode cL_law 240 = .ok (.iload 4, 2) := by decide +kernel
theorem dL_law_242 : decode cL_law 242 = .ok (.iconst 2, 1) := by decide +kernel
theorem dL_law_243 : decode cL_law 243 = .ok (.iadd, 1) := by decide +kernel
theorem dL_law_244 : decode cL_law 244 = .ok (.iaload, 1) := by decide +kernel
theorem dL_law_245 : decode cL_law 245 = .ok (.aload_n 3, 1) := by decide +kernel
theorem dL_law_246 : decode cL_law 246 = .ok (.invokestatic 80, 3) := by decide +kernel
theorem dL_law_249 : decode cL_law 249 = .ok (.istore 5, 2) := by decide +kernel
theorem dL_law_251 : decode cL_law 251 = .ok (.aload_n 2, 1) := by decide +kernel
theorem dL_law_252 : decode cL_law 252 = .ok (.aload_n 0, 1) := by decide +kernel
theorem dL_law_253 : decode cL_law 253 = .ok (.iload 4, 2) := by decide +kernel
theorem dL_law_255 : decode cL_law 255 = .ok (.iconst 1, 1) := by decide +kernel
theorem dL_law_256 : decode cL_law 256 = .ok (.iadd, 1) := by decide +kernel
theorem dL_law_257 : decode cL_law 257 = .ok (.iaload, 1) := by decide +kernel
theorem dL_law_258 : decode cL_law 258 = .ok (.aload_n 0, 1) := by decide +kernel
theorem dL_law_259 : decode cL_law 259 = .ok (.iload 4, 2) := by decide +kernel
theorem dL_law_261 : decode cL_law 261 = .ok (.iconst 2, 1) := by decide +kernel
theorem dL_law_262 : decode cL_law 262 = .ok (.iadd, 1) := by decide +kernel
theorem dL_law_263 : decode cL_law 263 = .ok (.iaload, 1) := by decide +kernel
theorem dL_law_264 : decode cL_law 264 = .ok (.invokevirtual 83, 3) := by decide +kernel
theorem dL_law_267 : decode cL_law 267 = .ok (.istore 6, 2) := by decide +kernel
theorem dL_law_269 : decode cL_law 269 = .ok (.aload_n 2, 1) := by decide +kernel
theorem dL_law_270 : decode cL_law 270 = .ok (.invokevirtual 77, 3) := by decide +kernel
theorem dL_law_273 : decode cL_law 273 = .ok (.iload 5, 2) := by decide +kernel
theorem dL_law_275 : decode cL_law 275 = .ok (.if_icmp .eq 5, 3) := by decide +kernel
theorem dL_law_278 : decode cL_law 278 = .ok (.iconst 0, 1) := by decide +kernel
theorem dL_law_279 : decode cL_law 279 = .ok (.ireturn, 1) := by decide +kernel
theorem dL_law_280 : decode cL_law 280 = .ok (.iload 5, 2) := by decide +kernel
theorem dL_law_282 : decode cL_law 282 = .ok (.ifCond .ne 15, 3) := by decide +kernel
theorem dL_law_285 : decode cL_law 285 = .ok (.aload_n 3, 1) := by decide +kernel
theorem dL_law_286 : decode cL_law 286 = .ok (.iconst 0, 1) := by decide +kernel
theorem dL_law_287 : decode cL_law 287 = .ok (.laload, 1) := by decide +kernel
theorem dL_law_288 : decode cL_law 288 = .ok (.iload 6, 2) := by decide +kernel
theorem dL_law_290 : decode cL_law 290 = .ok (.i2l, 1) := by decide +kernel
theorem dL_law_291 : decode cL_law 291 = .ok (.lcmp, 1) := by decide +kernel
theorem dL_law_292 : decode cL_law 292 = .ok (.ifCond .eq 5, 3) := by decide +kernel
theorem dL_law_295 : decode cL_law 295 = .ok (.iconst 0, 1) := by decide +kernel
theorem dL_law_296 : decode cL_law 296 = .ok (.ireturn, 1) := by decide +kernel
theorem dL_law_297 : decode cL_law 297 = .ok (.goto 1029, 3) := by decide +kernel
theorem dL_law_300 : decode cL_law 300 = .ok (.aload_n 1, 1) := by decide +kernel
theorem dL_law_301 : decode cL_law 301 = .ok (.aload_n 0, 1) := by decide +kernel
theorem dL_law_302 : decode cL_law 302 = .ok (.iload 4, 2) := by decide +kernel
theorem dL_law_304 : decode cL_law 304 = .ok (.iconst 1, 1) := by decide +kernel
theorem dL_law_305 : decode cL_law 305 = .ok (.iadd, 1) := by decide +kernel
theorem dL_law_306 : decode cL_law 306 = .ok (.iaload, 1) := by decide +kernel
theorem dL_law_307 : decode cL_law 307 = .ok (.aload_n 0, 1) := by decide +kernel
theorem dL_law_308 : decode cL_law 308 = .ok (.iload 4, 2) := by decide +kernel
theorem dL_law_310 : decode cL_law 310 = .ok (.iconst 2, 1) := by decide +kernel
theorem dL_law_311 : decode cL_law 311 = .ok (.iadd, 1) := by decide +kernel
theorem dL_law_312 : decode cL_law 312 = .ok (.iaload, 1) := by decide +kernel
theorem dL_law_313 : decode cL_law 313 = .ok (.aload_n 3, 1) := by decide +kernel
theorem dL_law_314 : decode cL_law 314 = .ok (.invokestatic 84, 3) := by decide +kernel
theorem dL_law_317 : decode cL_law 317 = .ok (.istore 5, 2) := by decide +kernel
theorem dL_law_319 : decode cL_law 319 = .ok (.aload_n 2, 1) := by decide +kernel
theorem dL_law_320 : decode cL_law 320 = .ok (.aload_n 0, 1) := by decide +kernel
theorem dL_law_321 : decode cL_law 321 = .ok (.iload 4, 2) := by decide +kernel
theorem dL_law_323 : decode cL_law 323 = .ok (.iconst 1, 1) := by decide +kernel
theorem dL_law_324 : decode cL_law 324 = .ok (.iadd, 1) := by decide +kernel
theorem dL_law_325 : decode cL_law 325 = .ok (.iaload, 1) := by decide +kernel
theorem dL_law_326 : decode cL_law 326 = .ok (.aload_n 0, 1) := by decide +kernel
theorem dL_law_327 : decode cL_law 327 = .ok (.iload 4, 2) := by decide +kernel
theorem dL_law_329 : decode cL_law 329 = .ok (.iconst 2, 1) := by decide +kernel
theorem dL_law_330 : decode cL_law 330 = .ok (.iadd, 1) := by decide +kernel
theorem dL_law_331 : decode cL_law 331 = .ok (.iaload, 1) := by decide +kernel
theorem dL_law_332 : decode cL_law 332 = .ok (.invokevirtual 86, 3) := by decide +kernel
theorem dL_law_335 : decode cL_law 335 = .ok (.istore 6, 2) := by decide +kernel
theorem dL_law_337 : decode cL_law 337 = .ok (.aload_n 2, 1) := by decide +kernel
theorem dL_law_338 : decode cL_law 338 = .ok (.invokevirtual 77, 3) := by decide +kernel
theorem dL_law_341 : decode cL_law 341 = .ok (.iload 5, 2) := by decide +kernel
theorem dL_law_343 : decode cL_law 343 = .ok (.if_icmp .eq 5, 3) := by decide +kernel
theorem dL_law_346 : decode cL_law 346 = .ok (.iconst 0, 1) := by decide +kernel
theorem dL_law_347 : decode cL_law 347 = .ok (.ireturn, 1) := by decide +kernel
theorem dL_law_348 : decode cL_law 348 = .ok (.iload 5, 2) := by decide +kernel
theorem dL_law_350 : decode cL_law 350 = .ok (.ifCond .ne 15, 3) := by decide +kernel
theorem dL_law_353 : decode cL_law 353 = .ok (.aload_n 3, 1) := by decide +kernel
theorem dL_law_354 : decode cL_law 354 = .ok (.iconst 0, 1) := by decide +kernel
theorem dL_law_355 : decode cL_law 355 = .ok (.laload, 1) := by decide +kernel
theorem dL_law_356 : decode cL_law 356 = .ok (.iload 6, 2) := by decide +kernel
theorem dL_law_358 : decode cL_law 358 = .ok (.i2l, 1) := by decide +kernel
theorem dL_law_359 : decode cL_law 359 = .ok (.lcmp, 1) := by decide +kernel
theorem dL_law_360 : decode cL_law 360 = .ok (.ifCond .eq 5, 3) := by decide +kernel
theorem dL_law_363 : decode cL_law 363 = .ok (.iconst 0, 1) := by decide +kernel
theorem dL_law_364 : decode cL_law 364 = .ok (.ireturn, 1) := by decide +kernel
theorem dL_law_365 : decode cL_law 365 = .ok (.goto 961, 3) := by decide +kernel
theorem dL_law_368 : decode cL_law 368 = .ok (.aload_n 1, 1) := by decide +kernel
theorem dL_law_369 : decode cL_law 369 = .ok (.aload_n 0, 1) := by decide +kernel
theorem dL_law_370 : decode cL_law 370 = .ok (.iload 4, 2) := by decide +kernel
theorem dL_law_372 : decode cL_law 372 = .ok (.iconst 1, 1) := by decide +kernel
theorem dL_law_373 : decode cL_law 373 = .ok (.iadd, 1) := by decide +kernel
theorem dL_law_374 : decode cL_law 374 = .ok (.iaload, 1) := by decide +kernel
theorem dL_law_375 : decode cL_law 375 = .ok (.aload_n 0, 1) := by decide +kernel
theorem dL_law_376 : decode cL_law 376 = .ok (.iload 4, 2) := by decide +kernel
theorem dL_law_378 : decode cL_law 378 = .ok (.iconst 2, 1) := by decide +kernel
theorem dL_law_379 : decode cL_law 379 = .ok (.iadd, 1) := by decide +kernel
theorem dL_law_380 : decode cL_law 380 = .ok (.iaload, 1) := by decide +kernel
theorem dL_law_381 : decode cL_law 381 = .ok (.aload_n 0, 1) := by decide +kernel
theorem dL_law_382 : decode cL_law 382 = .ok (.iload 4, 2) := by decide +kernel
theorem dL_law_384 : decode cL_law 384 = .ok (.iconst 3, 1) := by decide +kernel
theorem dL_law_385 : decode cL_law 385 = .ok (.iadd, 1) := by decide +kernel
theorem dL_law_386 : decode cL_law 386 = .ok (.iaload, 1) := by decide +kernel
theorem dL_law_387 : decode cL_law 387 = .ok (.aload_n 3, 1) := by decide +kernel
theorem dL_law_388 : decode cL_law 388 = .ok (.invokestatic 87, 3) := by decide +kernel
theorem dL_law_391 : decode cL_law 391 = .ok (.istore 5, 2) := by decide +kernel
theorem dL_law_393 : decode cL_law 393 = .ok (.aload_n 2, 1) := by decide +kernel
theorem dL_law_394 : decode cL_law 394 = .ok (.aload_n 0, 1) := by decide +kernel
theorem dL_law_395 : decode cL_law 395 = .ok (.iload 4, 2) := by decide +kernel
theorem dL_law_397 : decode cL_law 397 = .ok (.iconst 1, 1) := by decide +kernel
theorem dL_law_398 : decode cL_law 398 = .ok (.iadd, 1) := by decide +kernel
theorem dL_law_399 : decode cL_law 399 = .ok (.iaload, 1) := by decide +kernel
theorem dL_law_400 : decode cL_law 400 = .ok (.aload_n 0, 1) := by decide +kernel
theorem dL_law_401 : decode cL_law 401 = .ok (.iload 4, 2) := by decide +kernel
theorem dL_law_403 : decode cL_law 403 = .ok (.iconst 2, 1) := by decide +kernel
theorem dL_law_404 : decode cL_law 404 = .ok (.iadd, 1) := by decide +kernel
theorem dL_law_405 : decode cL_law 405 = .ok (.iaload, 1) := by decide +kernel
theorem dL_law_406 : decode cL_law 406 = .ok (.aload_n 0, 1) := by decide +kernel
theorem dL_law_407 : decode cL_law 407 = .ok (.iload 4, 2) := by decide +kernel
theorem dL_law_409 : decode cL_law 409 = .ok (.iconst 3, 1) := by decide +kernel
theorem dL_law_410 : decode cL_law 410 = .ok (.iadd, 1) := by decide +kernel
theorem dL_law_411 : decode cL_law 411 = .ok (.iaload, 1) := by decide +kernel
theorem dL_law_412 : decode cL_law 412 = .ok (.invokevirtual 89, 3) := by decide +kernel
theorem dL_law_415 : decode cL_law 415 = .ok (.istore 6, 2) := by decide +kernel
theorem dL_law_417 : decode cL_law 417 = .ok (.aload_n 2, 1) := by decide +kernel
theorem dL_law_418 : decode cL_law 418 = .ok (.invokevirtual 77, 3) := by decide +kernel
theorem dL_law_421 : decode cL_law 421 = .ok (.iload 5, 2) := by decide +kernel
theorem dL_law_423 : decode cL_law 423 = .ok (.if_icmp .eq 5, 3) := by decide +kernel
theorem dL_law_426 : decode cL_law 426 = .ok (.iconst 0, 1) := by decide +kernel
theorem dL_law_427 : decode cL_law 427 = .ok (.ireturn, 1) := by decide +kernel
theorem dL_law_428 : decode cL_law 428 = .ok (.iload 5, 2) := by decide +kernel
theorem dL_law_430 : decode cL_law 430 = .ok (.ifCond .ne 15, 3) := by decide +kernel
theorem dL_law_433 : decode cL_law 433 = .ok (.aload_n 3, 1) := by decide +kernel
theorem dL_law_434 : decode cL_law 434 = .ok (.iconst 0, 1) := by decide +kernel
theorem dL_law_435 : decode cL_law 435 = .ok (.laload, 1) := by decide +kernel
theorem dL_law_436 : decode cL_law 436 = .ok (.iload 6, 2) := by decide +kernel
theorem dL_law_438 : decode cL_law 438 = .ok (.i2l, 1) := by decide +kernel
theorem dL_law_439 : decode cL_law 439 = .ok (.lcmp, 1) := by decide +kernel
theorem dL_law_440 : decode cL_law 440 = .ok (.ifCond .eq 5, 3) := by decide +kernel
theorem dL_law_443 : decode cL_law 443 = .ok (.iconst 0, 1) := by decide +kernel
theorem dL_law_444 : decode cL_law 444 = .ok (.ireturn, 1) := by decide +kernel
theorem dL_law_445 : decode cL_law 445 = .ok (.goto 881, 3) := by decide +kernel
theorem dL_law_448 : decode cL_law 448 = .ok (.aload_n 1, 1) := by decide +kernel
theorem dL_law_449 : decode cL_law 449 = .ok (.aload_n 0, 1) := by decide +kernel
theorem dL_law_450 : decode cL_law 450 = .ok (.iload 4, 2) := by decide +kernel
theorem dL_law_452 : decode cL_law 452 = .ok (.iconst 1, 1) := by decide +kernel
theorem dL_law_453 : decode cL_law 453 = .ok (.iadd, 1) := by decide +kernel
theorem dL_law_454 : decode cL_law 454 = .ok (.iaload, 1) := by decide +kernel
theorem dL_law_455 : decode cL_law 455 = .ok (.aload_n 3, 1) := by decide +kernel
theorem dL_law_456 : decode cL_law 456 = .ok (.invokestatic 90, 3) := by decide +kernel
theorem dL_law_459 : decode cL_law 459 = .ok (.istore 5, 2) := by decide +kernel
theorem dL_law_461 : decode cL_law 461 = .ok (.aload_n 2, 1) := by decide +kernel
theorem dL_law_462 : decode cL_law 462 = .ok (.aload_n 0, 1) := by decide +kernel
theorem dL_law_463 : decode cL_law 463 = .ok (.iload 4, 2) := by decide +kernel
theorem dL_law_465 : decode cL_law 465 = .ok (.iconst 1, 1) := by decide +kernel
theorem dL_law_466 : decode cL_law 466 = .ok (.iadd, 1) := by decide +kernel
theorem dL_law_467 : decode cL_law 467 = .ok (.iaload, 1) := by decide +kernel
theorem dL_law_468 : decode cL_law 468 = .ok (.invokevirtual 93, 3) := by decide +kernel
theorem dL_law_471 : decode cL_law 471 = .ok (.istore 6, 2) := by decide +kernel
theorem dL_law_473 : decode cL_law 473 = .ok (.aload_n 2, 1) := by decide +kernel
theorem dL_law_474 : decode cL_law 474 = .ok (.invokevirtual 77, 3) := by decide +kernel
theorem dL_law_477 : decode cL_law 477 = .ok (.iload 5, 2) := by decide +kernel
theorem dL_law_479 : decode cL_law 479 = .ok (.if_icmp .eq 5, 3) := by decide +kernel
theorem dL_law_482 : decode cL_law 482 = .ok (.iconst 0, 1) := by decide +kernel
theorem dL_law_483 : decode cL_law 483 = .ok (.ireturn, 1) := by decide +kernel
theorem dL_law_484 : decode cL_law 484 = .ok (.iload 5, 2) := by decide +kernel
theorem dL_law_486 : decode cL_law 486 = .ok (.ifCond .ne 15, 3) := by decide +kernel
theorem dL_law_489 : decode cL_law 489 = .ok (.aload_n 3, 1) := by decide +kernel
theorem dL_law_490 : decode cL_law 490 = .ok (.iconst 0, 1) := by decide +kernel
theorem dL_law_491 : decode cL_law 491 = .ok (.laload, 1) := by decide +kernel
theorem dL_law_492 : decode cL_law 492 = .ok (.iload 6, 2) := by decide +kernel
theorem dL_law_494 : decode cL_law 494 = .ok (.i2l, 1) := by decide +kernel
theorem dL_law_495 : decode cL_law 495 = .ok (.lcmp, 1) := by decide +kernel
theorem dL_law_496 : decode cL_law 496 = .ok (.ifCond .eq 5, 3) := by decide +kernel
theorem dL_law_499 : decode cL_law 499 = .ok (.iconst 0, 1) := by decide +kernel
theorem dL_law_500 : decode cL_law 500 = .ok (.ireturn, 1) := by decide +kernel
theorem dL_law_501 : decode cL_law 501 = .ok (.goto 825, 3) := by decide +kernel
theorem dL_law_504 : decode cL_law 504 = .ok (.aload_n 1, 1) := by decide +kernel
theorem dL_law_505 : decode cL_law 505 = .ok (.invokevirtual 94, 3) := by decide +kernel
theorem dL_law_508 : decode cL_law 508 = .ok (.aload_n 2, 1) := by decide +kernel
theorem dL_law_509 : decode cL_law 509 = .ok (.invokevirtual 97, 3) := by decide +kernel
theorem dL_law_512 : decode cL_law 512 = .ok (.if_icmp .eq 814, 3) := by decide +kernel
theorem dL_law_515 : decode cL_law 515 = .ok (.iconst 0, 1) := by decide +kernel
theorem dL_law_516 : decode cL_law 516 = .ok (.ireturn, 1) := by decide +kernel
theorem dL_law_517 : decode cL_law 517 = .ok (.aload_n 1, 1) := by decide +kernel
theorem dL_law_518 : decode cL_law 518 = .ok (.aload_n 0, 1) := by decide +kernel
theorem dL_law_519 : decode cL_law 519 = .ok (.iload 4, 2) := by decide +kernel
theorem dL_law_521 : decode cL_law 521 = .ok (.iconst 1, 1) := by decide +kernel
theorem dL_law_522 : decode cL_law 522 = .ok (.iadd, 1) := by decide +kernel
theorem dL_law_523 : decode cL_law 523 = .ok (.iaload, 1) := by decide +kernel
theorem dL_law_524 : decode cL_law 524 = .ok (.aload_n 3, 1) := by decide +kernel
theorem dL_law_525 : decode cL_law 525 = .ok (.invokestatic 98, 3) := by decide +kernel
theorem dL_law_528 : decode cL_law 528 = .ok (.istore 5, 2) := by decide +kernel
theorem dL_law_530 : decode cL_law 530 = .ok (.aload_n 2, 1) := by decide +kernel
theorem dL_law_531 : decode cL_law 531 = .ok (.aload_n 0, 1) := by decide +kernel
theorem dL_law_532 : decode cL_law 532 = .ok (.iload 4, 2) := by decide +kernel
theorem dL_law_534 : decode cL_law 534 = .ok (.iconst 1, 1) := by decide +kernel
theorem dL_law_535 : decode cL_law 535 = .ok (.iadd, 1) := by decide +kernel
theorem dL_law_536 : decode cL_law 536 = .ok (.iaload, 1) := by decide +kernel
theorem dL_law_537 : decode cL_law 537 = .ok (.invokevirtual 100, 3) := by decide +kernel
theorem dL_law_540 : decode cL_law 540 = .ok (.istore 6, 2) := by decide +kernel
theorem dL_law_542 : decode cL_law 542 = .ok (.aload_n 2, 1) := by decide +kernel
theorem dL_law_543 : decode cL_law 543 = .ok (.invokevirtual 77, 3) := by decide +kernel
theorem dL_law_546 : decode cL_law 546 = .ok (.iload 5, 2) := by decide +kernel
theorem dL_law_548 : decode cL_law 548 = .ok (.if_icmp .eq 5, 3) := by decide +kernel
theorem dL_law_551 : decode cL_law 551 = .ok (.iconst 0, 1) := by decide +kernel
theorem dL_law_552 : decode cL_law 552 = .ok (.ireturn, 1) := by decide +kernel
theorem dL_law_553 : decode cL_law 553 = .ok (.iload 5, 2) := by decide +kernel
theorem dL_law_555 : decode cL_law 555 = .ok (.ifCond .ne 15, 3) := by decide +kernel
theorem dL_law_558 : decode cL_law 558 = .ok (.aload_n 3, 1) := by decide +kernel
theorem dL_law_559 : decode cL_law 559 = .ok (.iconst 0, 1) := by decide +kernel
theorem dL_law_560 : decode cL_law 560 = .ok (.laload, 1) := by decide +kernel
theorem dL_law_561 : decode cL_law 561 = .ok (.iload 6, 2) := by decide +kernel
theorem dL_law_563 : decode cL_law 563 = .ok (.i2l, 1) := by decide +kernel
theorem dL_law_564 : decode cL_law 564 = .ok (.lcmp, 1) := by decide +kernel
theorem dL_law_565 : decode cL_law 565 = .ok (.ifCond .eq 5, 3) := by decide +kernel
theorem dL_law_568 : decode cL_law 568 = .ok (.iconst 0, 1) := by decide +kernel
theorem dL_law_569 : decode cL_law 569 = .ok (.ireturn, 1) := by decide +kernel
theorem dL_law_570 : decode cL_law 570 = .ok (.goto 756, 3) := by decide +kernel
theorem dL_law_573 : decode cL_law 573 = .ok (.aload_n 1, 1) := by decide +kernel
theorem dL_law_574 : decode cL_law 574 = .ok (.aload_n 0, 1) := by decide +kernel
theorem dL_law_575 : decode cL_law 575 = .ok (.iload 4, 2) := by decide +kernel
theorem dL_law_577 : decode cL_law 577 = .ok (.iconst 1, 1) := by decide +kernel
theorem dL_law_578 : decode cL_law 578 = .ok (.iadd, 1) := by decide +kernel
theorem dL_law_579 : decode cL_law 579 = .ok (.iaload, 1) := by decide +kernel
theorem dL_law_580 : decode cL_law 580 = .ok (.aload_n 3, 1) := by decide +kernel
theorem dL_law_581 : decode cL_law 581 = .ok (.invokestatic 101, 3) := by decide +kernel
theorem dL_law_584 : decode cL_law 584 = .ok (.istore 5, 2) := by decide +kernel
theorem dL_law_586 : decode cL_law 586 = .ok (.aload_n 2, 1) := by decide +kernel
theorem dL_law_587 : decode cL_law 587 = .ok (.aload_n 0, 1) := by decide +kernel
theorem dL_law_588 : decode cL_law 588 = .ok (.iload 4, 2) := by decide +kernel
theorem dL_law_590 : decode cL_law 590 = .ok (.iconst 1, 1) := by decide +kernel
theorem dL_law_591 : decode cL_law 591 = .ok (.iadd, 1) := by decide +kernel
theorem dL_law_592 : decode cL_law 592 = .ok (.iaload, 1) := by decide +kernel
theorem dL_law_593 : decode cL_law 593 = .ok (.invokevirtual 103, 3) := by decide +kernel
theorem dL_law_596 : decode cL_law 596 = .ok (.istore 6, 2) := by decide +kernel
theorem dL_law_598 : decode cL_law 598 = .ok (.aload_n 2, 1) := by decide +kernel
theorem dL_law_599 : decode cL_law 599 = .ok (.invokevirtual 77, 3) := by decide +kernel
theorem dL_law_602 : decode cL_law 602 = .ok (.iload 5, 2) := by decide +kernel
theorem dL_law_604 : decode cL_law 604 = .ok (.if_icmp .eq 5, 3) := by decide +kernel
theorem dL_law_607 : decode cL_law 607 = .ok (.iconst 0, 1) := by decide +kernel
theorem dL_law_608 : decode cL_law 608 = .ok (.ireturn, 1) := by decide +kernel
theorem dL_law_609 : decode cL_law 609 = .ok (.iload 5, 2) := by decide +kernel
theorem dL_law_611 : decode cL_law 611 = .ok (.ifCond .ne 15, 3) := by decide +kernel
theorem dL_law_614 : decode cL_law 614 = .ok (.aload_n 3, 1) := by decide +kernel
theorem dL_law_615 : decode cL_law 615 = .ok (.iconst 0, 1) := by decide +kernel
theorem dL_law_616 : decode cL_law 616 = .ok (.laload, 1) := by decide +kernel
theorem dL_law_617 : decode cL_law 617 = .ok (.iload 6, 2) := by decide +kernel
theorem dL_law_619 : decode cL_law 619 = .ok (.i2l, 1) := by decide +kernel
theorem dL_law_620 : decode cL_law 620 = .ok (.lcmp, 1) := by decide +kernel
theorem dL_law_621 : decode cL_law 621 = .ok (.ifCond .eq 5, 3) := by decide +kernel
theorem dL_law_624 : decode cL_law 624 = .ok (.iconst 0, 1) := by decide +kernel
theorem dL_law_625 : decode cL_law 625 = .ok (.ireturn, 1) := by decide +kernel
theorem dL_law_626 : decode cL_law 626 = .ok (.goto 700, 3) := by decide +kernel
theorem dL_law_629 : decode cL_law 629 = .ok (.aload_n 1, 1) := by decide +kernel
theorem dL_law_630 : decode cL_law 630 = .ok (.aload_n 0, 1) := by decide +kernel
theorem dL_law_631 : decode cL_law 631 = .ok (.iload 4, 2) := by decide +kernel
theorem dL_law_633 : decode cL_law 633 = .ok (.iconst 1, 1) := by decide +kernel
theorem dL_law_634 : decode cL_law 634 = .ok (.iadd, 1) := by decide +kernel
theorem dL_law_635 : decode cL_law 635 = .ok (.iaload, 1) := by decide +kernel
theorem dL_law_636 : decode cL_law 636 = .ok (.aload_n 0, 1) := by decide +kernel
theorem dL_law_637 : decode cL_law 637 = .ok (.iload 4, 2) := by decide +kernel
theorem dL_law_639 : decode cL_law 639 = .ok (.iconst 2, 1) := by decide +kernel
theorem dL_law_640 : decode cL_law 640 = .ok (.iadd, 1) := by decide +kernel
theorem dL_law_641 : decode cL_law 641 = .ok (.iaload, 1) := by decide +kernel
theorem dL_law_642 : decode cL_law 642 = .ok (.aload_n 3, 1) := by decide +kernel
theorem dL_law_643 : decode cL_law 643 = .ok (.invokestatic 104, 3) := by decide +kernel
theorem dL_law_646 : decode cL_law 646 = .ok (.istore 5, 2) := by decide +kernel
theorem dL_law_648 : decode cL_law 648 = .ok (.aload_n 2, 1) := by decide +kernel
theorem dL_law_649 : decode cL_law 649 = .ok (.aload_n 0, 1) := by decide +kernel
theorem dL_law_650 : decode cL_law 650 = .ok (.iload 4, 2) := by decide +kernel
theorem dL_law_652 : decode cL_law 652 = .ok (.iconst 1, 1) := by decide +kernel
theorem dL_law_653 : decode cL_law 653 = .ok (.iadd, 1) := by decide +kernel
theorem dL_law_654 : decode cL_law 654 = .ok (.iaload, 1) := by decide +kernel
theorem dL_law_655 : decode cL_law 655 = .ok (.aload_n 0, 1) := by decide +kernel
theorem dL_law_656 : decode cL_law 656 = .ok (.iload 4, 2) := by decide +kernel
theorem dL_law_658 : decode cL_law 658 = .ok (.iconst 2, 1) := by decide +kernel
theorem dL_law_659 : decode cL_law 659 = .ok (.iadd, 1) := by decide +kernel
theorem dL_law_660 : decode cL_law 660 = .ok (.iaload, 1) := by decide +kernel
theorem dL_law_661 : decode cL_law 661 = .ok (.invokevirtual 106, 3) := by decide +kernel
theorem dL_law_664 : decode cL_law 664 = .ok (.istore 6, 2) := by decide +kernel
theorem dL_law_666 : decode cL_law 666 = .ok (.aload_n 2, 1) := by decide +kernel
theorem dL_law_667 : decode cL_law 667 = .ok (.invokevirtual 77, 3) := by decide +kernel
theorem dL_law_670 : decode cL_law 670 = .ok (.iload 5, 2) := by decide +kernel
theorem dL_law_672 : decode cL_law 672 = .ok (.if_icmp .eq 5, 3) := by decide +kernel
theorem dL_law_675 : decode cL_law 675 = .ok (.iconst 0, 1) := by decide +kernel
theorem dL_law_676 : decode cL_law 676 = .ok (.ireturn, 1) := by decide +kernel
theorem dL_law_677 : decode cL_law 677 = .ok (.iload 5, 2) := by decide +kernel
theorem dL_law_679 : decode cL_law 679 = .ok (.ifCond .ne 15, 3) := by decide +kernel
theorem dL_law_682 : decode cL_law 682 = .ok (.aload_n 3, 1) := by decide +kernel
theorem dL_law_683 : decode cL_law 683 = .ok (.iconst 0, 1) := by decide +kernel
theorem dL_law_684 : decode cL_law 684 = .ok (.laload, 1) := by decide +kernel
theorem dL_law_685 : decode cL_law 685 = .ok (.iload 6, 2) := by decide +kernel
theorem dL_law_687 : decode cL_law 687 = .ok (.i2l, 1) := by decide +kernel
theorem dL_law_688 : decode cL_law 688 = .ok (.lcmp, 1) := by decide +kernel
theorem dL_law_689 : decode cL_law 689 = .ok (.ifCond .eq 5, 3) := by decide +kernel
theorem dL_law_692 : decode cL_law 692 = .ok (.iconst 0, 1) := by decide +kernel
theorem dL_law_693 : decode cL_law 693 = .ok (.ireturn, 1) := by decide +kernel
theorem dL_law_694 : decode cL_law 694 = .ok (.goto 632, 3) := by decide +kernel
theorem dL_law_697 : decode cL_law 697 = .ok (.aload_n 1, 1) := by decide +kernel
theorem dL_law_698 : decode cL_law 698 = .ok (.aload_n 0, 1) := by decide +kernel
theorem dL_law_699 : decode cL_law 699 = .ok (.iload 4, 2) := by decide +kernel
theorem dL_law_701 : decode cL_law 701 = .ok (.iconst 1, 1) := by decide +kernel
theorem dL_law_702 : decode cL_law 702 = .ok (.iadd, 1) := by decide +kernel
theorem dL_law_703 : decode cL_law 703 = .ok (.iaload, 1) := by decide +kernel
theorem dL_law_704 : decode cL_law 704 = .ok (.aload_n 0, 1) := by decide +kernel
theorem dL_law_705 : decode cL_law 705 = .ok (.iload 4, 2) := by decide +kernel
theorem dL_law_707 : decode cL_law 707 = .ok (.iconst 2, 1) := by decide +kernel
theorem dL_law_708 : decode cL_law 708 = .ok (.iadd, 1) := by decide +kernel
theorem dL_law_709 : decode cL_law 709 = .ok (.iaload, 1) := by decide +kernel
theorem dL_law_710 : decode cL_law 710 = .ok (.aload_n 3, 1) := by decide +kernel
theorem dL_law_711 : decode cL_law 711 = .ok (.invokestatic 107, 3) := by decide +kernel
theorem dL_law_714 : decode cL_law 714 = .ok (.istore 5, 2) := by decide +kernel
theorem dL_law_716 : decode cL_law 716 = .ok (.aload_n 2, 1) := by decide +kernel
theorem dL_law_717 : decode cL_law 717 = .ok (.aload_n 0, 1) := by decide +kernel
theorem dL_law_718 : decode cL_law 718 = .ok (.iload 4, 2) := by decide +kernel
theorem dL_law_720 : decode cL_law 720 = .ok (.iconst 1, 1) := by decide +kernel
theorem dL_law_721 : decode cL_law 721 = .ok (.iadd, 1) := by decide +kernel
theorem dL_law_722 : decode cL_law 722 = .ok (.iaload, 1) := by decide +kernel
theorem dL_law_723 : decode cL_law 723 = .ok (.aload_n 0, 1) := by decide +kernel
theorem dL_law_724 : decode cL_law 724 = .ok (.iload 4, 2) := by decide +kernel
theorem dL_law_726 : decode cL_law 726 = .ok (.iconst 2, 1) := by decide +kernel
theorem dL_law_727 : decode cL_law 727 = .ok (.iadd, 1) := by decide +kernel
theorem dL_law_728 : decode cL_law 728 = .ok (.iaload, 1) := by decide +kernel
theorem dL_law_729 : decode cL_law 729 = .ok (.invokevirtual 109, 3) := by decide +kernel
theorem dL_law_732 : decode cL_law 732 = .ok (.istore 6, 2) := by decide +kernel
theorem dL_law_734 : decode cL_law 734 = .ok (.aload_n 2, 1) := by decide +kernel
theorem dL_law_735 : decode cL_law 735 = .ok (.invokevirtual 77, 3) := by decide +kernel
theorem dL_law_738 : decode cL_law 738 = .ok (.iload 5, 2) := by decide +kernel
theorem dL_law_740 : decode cL_law 740 = .ok (.if_icmp .eq 5, 3) := by decide +kernel
theorem dL_law_743 : decode cL_law 743 = .ok (.iconst 0, 1) := by decide +kernel
theorem dL_law_744 : decode cL_law 744 = .ok (.ireturn, 1) := by decide +kernel
theorem dL_law_745 : decode cL_law 745 = .ok (.iload 5, 2) := by decide +kernel
theorem dL_law_747 : decode cL_law 747 = .ok (.ifCond .ne 15, 3) := by decide +kernel
theorem dL_law_750 : decode cL_law 750 = .ok (.aload_n 3, 1) := by decide +kernel
theorem dL_law_751 : decode cL_law 751 = .ok (.iconst 0, 1) := by decide +kernel
theorem dL_law_752 : decode cL_law 752 = .ok (.laload, 1) := by decide +kernel
theorem dL_law_753 : decode cL_law 753 = .ok (.iload 6, 2) := by decide +kernel
theorem dL_law_755 : decode cL_law 755 = .ok (.i2l, 1) := by decide +kernel
theorem dL_law_756 : decode cL_law 756 = .ok (.lcmp, 1) := by decide +kernel
theorem dL_law_757 : decode cL_law 757 = .ok (.ifCond .eq 5, 3) := by decide +kernel
theorem dL_law_760 : decode cL_law 760 = .ok (.iconst 0, 1) := by decide +kernel
theorem dL_law_761 : decode cL_law 761 = .ok (.ireturn, 1) := by decide +kernel
theorem dL_law_762 : decode cL_law 762 = .ok (.goto 564, 3) := by decide +kernel
theorem dL_law_765 : decode cL_law 765 = .ok (.aload_n 1, 1) := by decide +kernel
theorem dL_law_766 : decode cL_law 766 = .ok (.aload_n 0, 1) := by decide +kernel
theorem dL_law_767 : decode cL_law 767 = .ok (.iload 4, 2) := by decide +kernel
theorem dL_law_769 : decode cL_law 769 = .ok (.iconst 1, 1) := by decide +kernel
theorem dL_law_770 : decode cL_law 770 = .ok (.iadd, 1) := by decide +kernel
theorem dL_law_771 : decode cL_law 771 = .ok (.iaload, 1) := by decide +kernel
theorem dL_law_772 : decode cL_law 772 = .ok (.aload_n 0, 1) := by decide +kernel
theorem dL_law_773 : decode cL_law 773 = .ok (.iload 4, 2) := by decide +kernel
theorem dL_law_775 : decode cL_law 775 = .ok (.iconst 2, 1) := by decide +kernel
theorem dL_law_776 : decode cL_law 776 = .ok (.iadd, 1) := by decide +kernel
theorem dL_law_777 : decode cL_law 777 = .ok (.iaload, 1) := by decide +kernel
theorem dL_law_778 : decode cL_law 778 = .ok (.aload_n 3, 1) := by decide +kernel
theorem dL_law_779 : decode cL_law 779 = .ok (.invokestatic 110, 3) := by decide +kernel
theorem dL_law_782 : decode cL_law 782 = .ok (.istore 5, 2) := by decide +kernel
theorem dL_law_784 : decode cL_law 784 = .ok (.aload_n 2, 1) := by decide +kernel
theorem dL_law_785 : decode cL_law 785 = .ok (.aload_n 0, 1) := by decide +kernel
theorem dL_law_786 : decode cL_law 786 = .ok (.iload 4, 2) := by decide +kernel
theorem dL_law_788 : decode cL_law 788 = .ok (.iconst 1, 1) := by decide +kernel
theorem dL_law_789 : decode cL_law 789 = .ok (.iadd, 1) := by decide +kernel
theorem dL_law_790 : decode cL_law 790 = .ok (.iaload, 1) := by decide +kernel
theorem dL_law_791 : decode cL_law 791 = .ok (.aload_n 0, 1) := by decide +kernel
theorem dL_law_792 : decode cL_law 792 = .ok (.iload 4, 2) := by decide +kernel
theorem dL_law_794 : decode cL_law 794 = .ok (.iconst 2, 1) := by decide +kernel
theorem dL_law_795 : decode cL_law 795 = .ok (.iadd, 1) := by decide +kernel
theorem dL_law_796 : decode cL_law 796 = .ok (.iaload, 1) := by decide +kernel
theorem dL_law_797 : decode cL_law 797 = .ok (.invokevirtual 112, 3) := by decide +kernel
theorem dL_law_800 : decode cL_law 800 = .ok (.istore 6, 2) := by decide +kernel
theorem dL_law_802 : decode cL_law 802 = .ok (.aload_n 2, 1) := by decide +kernel
theorem dL_law_803 : decode cL_law 803 = .ok (.invokevirtual 77, 3) := by decide +kernel
theorem dL_law_806 : decode cL_law 806 = .ok (.iload 5, 2) := by decide +kernel
theorem dL_law_808 : decode cL_law 808 = .ok (.if_icmp .eq 5, 3) := by decide +kernel
theorem dL_law_811 : decode cL_law 811 = .ok (.iconst 0, 1) := by decide +kernel
theorem dL_law_812 : decode cL_law 812 = .ok (.ireturn, 1) := by decide +kernel
theorem dL_law_813 : decode cL_law 813 = .ok (.iload 5, 2) := by decide +kernel
theorem dL_law_815 : decode cL_law 815 = .ok (.ifCond .ne 15, 3) := by decide +kernel
theorem dL_law_818 : decode cL_law 818 = .ok (.aload_n 3, 1) := by decide +kernel
theorem dL_law_819 : decode cL_law 819 = .ok (.iconst 0, 1) := by decide +kernel
theorem dL_law_820 : decode cL_law 820 = .ok (.laload, 1) := by decide +kernel
theorem dL_law_821 : decode cL_law 821 = .ok (.iload 6, 2) := by decide +kernel
theorem dL_law_823 : decode cL_law 823 = .ok (.i2l, 1) := by decide +kernel
theorem dL_law_824 : decode cL_law 824 = .ok (.lcmp, 1) := by decide +kernel
theorem dL_law_825 : decode cL_law 825 = .ok (.ifCond .eq 5, 3) := by decide +kernel
theorem dL_law_828 : decode cL_law 828 = .ok (.iconst 0, 1) := by decide +kernel
theorem dL_law_829 : decode cL_law 829 = .ok (.ireturn, 1) := by decide +kernel
theorem dL_law_830 : decode cL_law 830 = .ok (.goto 496, 3) := by decide +kernel
theorem dL_law_833 : decode cL_law 833 = .ok (.aload_n 1, 1) := by decide +kernel
theorem dL_law_834 : decode cL_law 834 = .ok (.aload_n 0, 1) := by decide +kernel
theorem dL_law_835 : decode cL_law 835 = .ok (.iload 4, 2) := by decide +kernel
theorem dL_law_837 : decode cL_law 837 = .ok (.iconst 1, 1) := by decide +kernel
theorem dL_law_838 : decode cL_law 838 = .ok (.iadd, 1) := by decide +kernel
theorem dL_law_839 : decode cL_law 839 = .ok (.iaload, 1) := by decide +kernel
theorem dL_law_840 : decode cL_law 840 = .ok (.aload_n 3, 1) := by decide +kernel
theorem dL_law_841 : decode cL_law 841 = .ok (.invokestatic 113, 3) := by decide +kernel
theorem dL_law_844 : decode cL_law 844 = .ok (.istore 5, 2) := by decide +kernel
theorem dL_law_846 : decode cL_law 846 = .ok (.aload_n 2, 1) := by decide +kernel
theorem dL_law_847 : decode cL_law 847 = .ok (.aload_n 0, 1) := by decide +kernel
theorem dL_law_848 : decode cL_law 848 = .ok (.iload 4, 2) := by decide +kernel
theorem dL_law_850 : decode cL_law 850 = .ok (.iconst 1, 1) := by decide +kernel
theorem dL_law_851 : decode cL_law 851 = .ok (.iadd, 1) := by decide +kernel
theorem dL_law_852 : decode cL_law 852 = .ok (.iaload, 1) := by decide +kernel
theorem dL_law_853 : decode cL_law 853 = .ok (.invokevirtual 115, 3) := by decide +kernel
theorem dL_law_856 : decode cL_law 856 = .ok (.istore 6, 2) := by decide +kernel
theorem dL_law_858 : decode cL_law 858 = .ok (.aload_n 2, 1) := by decide +kernel
theorem dL_law_859 : decode cL_law 859 = .ok (.invokevirtual 77, 3) := by decide +kernel
theorem dL_law_862 : decode cL_law 862 = .ok (.iload 5, 2) := by decide +kernel
theorem dL_law_864 : decode cL_law 864 = .ok (.if_icmp .eq 5, 3) := by decide +kernel
theorem dL_law_867 : decode cL_law 867 = .ok (.iconst 0, 1) := by decide +kernel
theorem dL_law_868 : decode cL_law 868 = .ok (.ireturn, 1) := by decide +kernel
theorem dL_law_869 : decode cL_law 869 = .ok (.iload 5, 2) := by decide +kernel
theorem dL_law_871 : decode cL_law 871 = .ok (.ifCond .ne 15, 3) := by decide +kernel
theorem dL_law_874 : decode cL_law 874 = .ok (.aload_n 3, 1) := by decide +kernel
theorem dL_law_875 : decode cL_law 875 = .ok (.iconst 0, 1) := by decide +kernel
theorem dL_law_876 : decode cL_law 876 = .ok (.laload, 1) := by decide +kernel
theorem dL_law_877 : decode cL_law 877 = .ok (.iload 6, 2) := by decide +kernel
theorem dL_law_879 : decode cL_law 879 = .ok (.i2l, 1) := by decide +kernel
theorem dL_law_880 : decode cL_law 880 = .ok (.lcmp, 1) := by decide +kernel
theorem dL_law_881 : decode cL_law 881 = .ok (.ifCond .eq 5, 3) := by decide +kernel
theorem dL_law_884 : decode cL_law 884 = .ok (.iconst 0, 1) := by decide +kernel
theorem dL_law_885 : decode cL_law 885 = .ok (.ireturn, 1) := by decide +kernel
theorem dL_law_886 : decode cL_law 886 = .ok (.goto 440, 3) := by decide +kernel
theorem dL_law_889 : decode cL_law 889 = .ok (.aload_n 1, 1) := by decide +kernel
theorem dL_law_890 : decode cL_law 890 = .ok (.aload_n 0, 1) := by decide +kernel
theorem dL_law_891 : decode cL_law 891 = .ok (.iload 4, 2) := by decide +kernel
theorem dL_law_893 : decode cL_law 893 = .ok (.iconst 1, 1) := by decide +kernel
theorem dL_law_894 : decode cL_law 894 = .ok (.iadd, 1) := by decide +kernel
theorem dL_law_895 : decode cL_law 895 = .ok (.iaload, 1) := by decide +kernel
theorem dL_law_896 : decode cL_law 896 = .ok (.aload_n 0, 1) := by decide +kernel
theorem dL_law_897 : decode cL_law 897 = .ok (.iload 4, 2) := by decide +kernel
theorem dL_law_899 : decode cL_law 899 = .ok (.iconst 2, 1) := by decide +kernel
theorem dL_law_900 : decode cL_law 900 = .ok (.iadd, 1) := by decide +kernel
theorem dL_law_901 : decode cL_law 901 = .ok (.iaload, 1) := by decide +kernel
theorem dL_law_902 : decode cL_law 902 = .ok (.aload_n 3, 1) := by decide +kernel
theorem dL_law_903 : decode cL_law 903 = .ok (.invokestatic 116, 3) := by decide +kernel
theorem dL_law_906 : decode cL_law 906 = .ok (.istore 5, 2) := by decide +kernel
theorem dL_law_908 : decode cL_law 908 = .ok (.aload_n 2, 1) := by decide +kernel
theorem dL_law_909 : decode cL_law 909 = .ok (.aload_n 0, 1) := by decide +kernel
theorem dL_law_910 : decode cL_law 910 = .ok (.iload 4, 2) := by decide +kernel
theorem dL_law_912 : decode cL_law 912 = .ok (.iconst 1, 1) := by decide +kernel
theorem dL_law_913 : decode cL_law 913 = .ok (.iadd, 1) := by decide +kernel
theorem dL_law_914 : decode cL_law 914 = .ok (.iaload, 1) := by decide +kernel
theorem dL_law_915 : decode cL_law 915 = .ok (.aload_n 0, 1) := by decide +kernel
theorem dL_law_916 : decode cL_law 916 = .ok (.iload 4, 2) := by decide +kernel
theorem dL_law_918 : decode cL_law 918 = .ok (.iconst 2, 1) := by decide +kernel
theorem dL_law_919 : decode cL_law 919 = .ok (.iadd, 1) := by decide +kernel
theorem dL_law_920 : decode cL_law 920 = .ok (.iaload, 1) := by decide +kernel
theorem dL_law_921 : decode cL_law 921 = .ok (.invokevirtual 118, 3) := by decide +kernel
theorem dL_law_924 : decode cL_law 924 = .ok (.istore 6, 2) := by decide +kernel
theorem dL_law_926 : decode cL_law 926 = .ok (.aload_n 2, 1) := by decide +kernel
theorem dL_law_927 : decode cL_law 927 = .ok (.invokevirtual 77, 3) := by decide +kernel
theorem dL_law_930 : decode cL_law 930 = .ok (.iload 5, 2) := by decide +kernel
theorem dL_law_932 : decode cL_law 932 = .ok (.if_icmp .eq 5, 3) := by decide +kernel
theorem dL_law_935 : decode cL_law 935 = .ok (.iconst 0, 1) := by decide +kernel
theorem dL_law_936 : decode cL_law 936 = .ok (.ireturn, 1) := by decide +kernel
theorem dL_law_937 : decode cL_law 937 = .ok (.iload 5, 2) := by decide +kernel
theorem dL_law_939 : decode cL_law 939 = .ok (.ifCond .ne 15, 3) := by decide +kernel
theorem dL_law_942 : decode cL_law 942 = .ok (.aload_n 3, 1) := by decide +kernel
theorem dL_law_943 : decode cL_law 943 = .ok (.iconst 0, 1) := by decide +kernel
theorem dL_law_944 : decode cL_law 944 = .ok (.laload, 1) := by decide +kernel
theorem dL_law_945 : decode cL_law 945 = .ok (.iload 6, 2) := by decide +kernel
theorem dL_law_947 : decode cL_law 947 = .ok (.i2l, 1) := by decide +kernel
theorem dL_law_948 : decode cL_law 948 = .ok (.lcmp, 1) := by decide +kernel
theorem dL_law_949 : decode cL_law 949 = .ok (.ifCond .eq 5, 3) := by decide +kernel
theorem dL_law_952 : decode cL_law 952 = .ok (.iconst 0, 1) := by decide +kernel
theorem dL_law_953 : decode cL_law 953 = .ok (.ireturn, 1) := by decide +kernel
theorem dL_law_954 : decode cL_law 954 = .ok (.goto 372, 3) := by decide +kernel
theorem dL_law_957 : decode cL_law 957 = .ok (.aload_n 1, 1) := by decide +kernel
theorem dL_law_958 : decode cL_law 958 = .ok (.aload_n 0, 1) := by decide +kernel
theorem dL_law_959 : decode cL_law 959 = .ok (.iload 4, 2) := by decide +kernel
theorem dL_law_961 : decode cL_law 961 = .ok (.iconst 1, 1) := by decide +kernel
theorem dL_law_962 : decode cL_law 962 = .ok (.iadd, 1) := by decide +kernel
theorem dL_law_963 : decode cL_law 963 = .ok (.iaload, 1) := by decide +kernel
theorem dL_law_964 : decode cL_law 964 = .ok (.aload_n 0, 1) := by decide +kernel
theorem dL_law_965 : decode cL_law 965 = .ok (.iload 4, 2) := by decide +kernel
theorem dL_law_967 : decode cL_law 967 = .ok (.iconst 2, 1) := by decide +kernel
theorem dL_law_968 : decode cL_law 968 = .ok (.iadd, 1) := by decide +kernel
theorem dL_law_969 : decode cL_law 969 = .ok (.iaload, 1) := by decide +kernel
theorem dL_law_970 : decode cL_law 970 = .ok (.aload_n 0, 1) := by decide +kernel
theorem dL_law_971 : decode cL_law 971 = .ok (.iload 4, 2) := by decide +kernel
theorem dL_law_973 : decode cL_law 973 = .ok (.iconst 3, 1) := by decide +kernel
theorem dL_law_974 : decode cL_law 974 = .ok (.iadd, 1) := by decide +kernel
theorem dL_law_975 : decode cL_law 975 = .ok (.iaload, 1) := by decide +kernel
theorem dL_law_976 : decode cL_law 976 = .ok (.aload_n 3, 1) := by decide +kernel
theorem dL_law_977 : decode cL_law 977 = .ok (.invokestatic 119, 3) := by decide +kernel
theorem dL_law_980 : decode cL_law 980 = .ok (.istore 5, 2) := by decide +kernel
theorem dL_law_982 : decode cL_law 982 = .ok (.aload_n 2, 1) := by decide +kernel
theorem dL_law_983 : decode cL_law 983 = .ok (.aload_n 0, 1) := by decide +kernel
theorem dL_law_984 : decode cL_law 984 = .ok (.iload 4, 2) := by decide +kernel
theorem dL_law_986 : decode cL_law 986 = .ok (.iconst 1, 1) := by decide +kernel
theorem dL_law_987 : decode cL_law 987 = .ok (.iadd, 1) := by decide +kernel
theorem dL_law_988 : decode cL_law 988 = .ok (.iaload, 1) := by decide +kernel
theorem dL_law_989 : decode cL_law 989 = .ok (.aload_n 0, 1) := by decide +kernel
theorem dL_law_990 : decode cL_law 990 = .ok (.iload 4, 2) := by decide +kernel
theorem dL_law_992 : decode cL_law 992 = .ok (.iconst 2, 1) := by decide +kernel
theorem dL_law_993 : decode cL_law 993 = .ok (.iadd, 1) := by decide +kernel
theorem dL_law_994 : decode cL_law 994 = .ok (.iaload, 1) := by decide +kernel
theorem dL_law_995 : decode cL_law 995 = .ok (.aload_n 0, 1) := by decide +kernel
theorem dL_law_996 : decode cL_law 996 = .ok (.iload 4, 2) := by decide +kernel
theorem dL_law_998 : decode cL_law 998 = .ok (.iconst 3, 1) := by decide +kernel
theorem dL_law_999 : decode cL_law 999 = .ok (.iadd, 1) := by decide +kernel
theorem dL_law_1000 : decode cL_law 1000 = .ok (.iaload, 1) := by decide +kernel
theorem dL_law_1001 : decode cL_law 1001 = .ok (.invokevirtual 121, 3) := by decide +kernel
theorem dL_law_1004 : decode cL_law 1004 = .ok (.istore 6, 2) := by decide +kernel
theorem dL_law_1006 : decode cL_law 1006 = .ok (.aload_n 2, 1) := by decide +kernel
theorem dL_law_1007 : decode cL_law 1007 = .ok (.invokevirtual 77, 3) := by decide +kernel
theorem dL_law_1010 : decode cL_law 1010 = .ok (.iload 5, 2) := by decide +kernel
theorem dL_law_1012 : decode cL_law 1012 = .ok (.if_icmp .eq 5, 3) := by decide +kernel
theorem dL_law_1015 : decode cL_law 1015 = .ok (.iconst 0, 1) := by decide +kernel
theorem dL_law_1016 : decode cL_law 1016 = .ok (.ireturn, 1) := by decide +kernel
theorem dL_law_1017 : decode cL_law 1017 = .ok (.iload 5, 2) := by decide +kernel
theorem dL_law_1019 : decode cL_law 1019 = .ok (.ifCond .ne 15, 3) := by decide +kernel
theorem dL_law_1022 : decode cL_law 1022 = .ok (.aload_n 3, 1) := by decide +kernel
theorem dL_law_1023 : decode cL_law 1023 = .ok (.iconst 0, 1) := by decide +kernel
theorem dL_law_1024 : decode cL_law 1024 = .ok (.laload, 1) := by decide +kernel
theorem dL_law_1025 : decode cL_law 1025 = .ok (.iload 6, 2) := by decide +kernel
theorem dL_law_1027 : decode cL_law 1027 = .ok (.i2l, 1) := by decide +kernel
theorem dL_law_1028 : decode cL_law 1028 = .ok (.lcmp, 1) := by decide +kernel
theorem dL_law_1029 : decode cL_law 1029 = .ok (.ifCond .eq 5, 3) := by decide +kernel
theorem dL_law_1032 : decode cL_law 1032 = .ok (.iconst 0, 1) := by decide +kernel
theorem dL_law_1033 : decode cL_law 1033 = .ok (.ireturn, 1) := by decide +kernel
theorem dL_law_1034 : decode cL_law 1034 = .ok (.goto 292, 3) := by decide +kernel
theorem dL_law_1037 : decode cL_law 1037 = .ok (.aload_n 1, 1) := by decide +kernel
theorem dL_law_1038 : decode cL_law 1038 = .ok (.invokevirtual 122, 3) := by decide +kernel
theorem dL_law_1041 : decode cL_law 1041 = .ok (.aload_n 2, 1) := by decide +kernel
theorem dL_law_1042 : decode cL_law 1042 = .ok (.invokevirtual 125, 3) := by decide +kernel
theorem dL_law_1045 : decode cL_law 1045 = .ok (.if_icmp .eq 281, 3) := by decide +kernel
theorem dL_law_1048 : decode cL_law 1048 = .ok (.iconst 0, 1) := by decide +kernel
theorem dL_law_1049 : decode cL_law 1049 = .ok (.ireturn, 1) := by decide +kernel
theorem dL_law_1050 : decode cL_law 1050 = .ok (.aload_n 1, 1) := by decide +kernel
theorem dL_law_1051 : decode cL_law 1051 = .ok (.invokevirtual 126, 3) := by decide +kernel
theorem dL_law_1054 : decode cL_law 1054 = .ok (.aload_n 2, 1) := by decide +kernel
theorem dL_law_1055 : decode cL_law 1055 = .ok (.invokevirtual 129, 3) := by decide +kernel
theorem dL_law_1058 : decode cL_law 1058 = .ok (.if_icmp .eq 268, 3) := by decide +kernel
theorem dL_law_1061 : decode cL_law 1061 = .ok (.iconst 0, 1) := by decide +kernel
theorem dL_law_1062 : decode cL_law 1062 = .ok (.ireturn, 1) := by decide +kernel
theorem dL_law_1063 : decode cL_law 1063 = .ok (.aload_n 1, 1) := by decide +kernel
theorem dL_law_1064 : decode cL_law 1064 = .ok (.aload_n 0, 1) := by decide +kernel
theorem dL_law_1065 : decode cL_law 1065 = .ok (.iload 4, 2) := by decide +kernel
theorem dL_law_1067 : decode cL_law 1067 = .ok (.iconst 1, 1) := by decide +kernel
theorem dL_law_1068 : decode cL_law 1068 = .ok (.iadd, 1) := by decide +kernel
theorem dL_law_1069 : decode cL_law 1069 = .ok (.iaload, 1) := by decide +kernel
theorem dL_law_1070 : decode cL_law 1070 = .ok (.aload_n 3, 1) := by decide +kernel
theorem dL_law_1071 : decode cL_law 1071 = .ok (.invokestatic 130, 3) := by decide +kernel
theorem dL_law_1074 : decode cL_law 1074 = .ok (.istore 5, 2) := by decide +kernel
theorem dL_law_1076 : decode cL_law 1076 = .ok (.aload_n 2, 1) := by decide +kernel
theorem dL_law_1077 : decode cL_law 1077 = .ok (.aload_n 0, 1) := by decide +kernel
theorem dL_law_1078 : decode cL_law 1078 = .ok (.iload 4, 2) := by decide +kernel
theorem dL_law_1080 : decode cL_law 1080 = .ok (.iconst 1, 1) := by decide +kernel
theorem dL_law_1081 : decode cL_law 1081 = .ok (.iadd, 1) := by decide +kernel
theorem dL_law_1082 : decode cL_law 1082 = .ok (.iaload, 1) := by decide +kernel
theorem dL_law_1083 : decode cL_law 1083 = .ok (.invokevirtual 132, 3) := by decide +kernel
theorem dL_law_1086 : decode cL_law 1086 = .ok (.istore 6, 2) := by decide +kernel
theorem dL_law_1088 : decode cL_law 1088 = .ok (.aload_n 2, 1) := by decide +kernel
theorem dL_law_1089 : decode cL_law 1089 = .ok (.invokevirtual 77, 3) := by decide +kernel
theorem dL_law_1092 : decode cL_law 1092 = .ok (.iload 5, 2) := by decide +kernel
theorem dL_law_1094 : decode cL_law 1094 = .ok (.if_icmp .eq 5, 3) := by decide +kernel
theorem dL_law_1097 : decode cL_law 1097 = .ok (.iconst 0, 1) := by decide +kernel
theorem dL_law_1098 : decode cL_law 1098 = .ok (.ireturn, 1) := by decide +kernel
theorem dL_law_1099 : decode cL_law 1099 = .ok (.iload 5, 2) := by decide +kernel
theorem dL_law_1101 : decode cL_law 1101 = .ok (.ifCond .ne 15, 3) := by decide +kernel
theorem dL_law_1104 : decode cL_law 1104 = .ok (.aload_n 3, 1) := by decide +kernel
theorem dL_law_1105 : decode cL_law 1105 = .ok (.iconst 0, 1) := by decide +kernel
theorem dL_law_1106 : decode cL_law 1106 = .ok (.laload, 1) := by decide +kernel
theorem dL_law_1107 : decode cL_law 1107 = .ok (.iload 6, 2) := by decide +kernel
theorem dL_law_1109 : decode cL_law 1109 = .ok (.i2l, 1) := by decide +kernel
theorem dL_law_1110 : decode cL_law 1110 = .ok (.lcmp, 1) := by decide +kernel
theorem dL_law_1111 : decode cL_law 1111 = .ok (.ifCond .eq 5, 3) := by decide +kernel
theorem dL_law_1114 : decode cL_law 1114 = .ok (.iconst 0, 1) := by decide +kernel
theorem dL_law_1115 : decode cL_law 1115 = .ok (.ireturn, 1) := by decide +kernel
theorem dL_law_1116 : decode cL_law 1116 = .ok (.goto 210, 3) := by decide +kernel
theorem dL_law_1119 : decode cL_law 1119 = .ok (.aload_n 1, 1) := by decide +kernel
theorem dL_law_1120 : decode cL_law 1120 = .ok (.invokevirtual 133, 3) := by decide +kernel
theorem dL_law_1123 : decode cL_law 1123 = .ok (.aload_n 2, 1) := by decide +kernel
theorem dL_law_1124 : decode cL_law 1124 = .ok (.invokevirtual 136, 3) := by decide +kernel
theorem dL_law_1127 : decode cL_law 1127 = .ok (.if_icmp .eq 199, 3) := by decide +kernel
theorem dL_law_1130 : decode cL_law 1130 = .ok (.iconst 0, 1) := by decide +kernel
theorem dL_law_1131 : decode cL_law 1131 = .ok (.ireturn, 1) := by decide +kernel
theorem dL_law_1132 : decode cL_law 1132 = .ok (.aload_n 1, 1) := by decide +kernel
theorem dL_law_1133 : decode cL_law 1133 = .ok (.invokevirtual 137, 3) := by decide +kernel
theorem dL_law_1136 : decode cL_law 1136 = .ok (.aload_n 2, 1) := by decide +kernel
theorem dL_law_1137 : decode cL_law 1137 = .ok (.invokevirtual 140, 3) := by decide +kernel
theorem dL_law_1140 : decode cL_law 1140 = .ok (.if_icmp .eq 186, 3) := by decide +kernel
theorem dL_law_1143 : decode cL_law 1143 = .ok (.iconst 0, 1) := by decide +kernel
theorem dL_law_1144 : decode cL_law 1144 = .ok (.ireturn, 1) := by decide +kernel
theorem dL_law_1145 : decode cL_law 1145 = .ok (.aload_n 1, 1) := by decide +kernel
theorem dL_law_1146 : decode cL_law 1146 = .ok (.invokevirtual 141, 3) := by decide +kernel
theorem dL_law_1149 : decode cL_law 1149 = .ok (.dstore 5, 2) := by decide +kernel
theorem dL_law_1151 : decode cL_law 1151 = .ok (.aload_n 2, 1) := by decide +kernel
theorem dL_law_1152 : decode cL_law 1152 = .ok (.invokevirtual 145, 3) := by decide +kernel
theorem dL_law_1155 : decode cL_law 1155 = .ok (.dstore 7, 2) := by decide +kernel
theorem dL_law_1157 : decode cL_law 1157 = .ok (.dload 5, 2) := by decide +kernel
theorem dL_law_1159 : decode cL_law 1159 = .ok (.dload 7, 2) := by decide +kernel
theorem dL_law_1161 : decode cL_law 1161 = .ok (.dcmp .l, 1) := by decide +kernel
theorem dL_law_1162 : decode cL_law 1162 = .ok (.ifCond .eq 21, 3) := by decide +kernel
theorem dL_law_1165 : decode cL_law 1165 = .ok (.dload 5, 2) := by decide +kernel
theorem dL_law_1167 : decode cL_law 1167 = .ok (.dload 5, 2) := by decide +kernel
theorem dL_law_1169 : decode cL_law 1169 = .ok (.dcmp .l, 1) := by decide +kernel
theorem dL_law_1170 : decode cL_law 1170 = .ok (.ifCond .eq 11, 3) := by decide +kernel
theorem dL_law_1173 : decode cL_law 1173 = .ok (.dload 7, 2) := by decide +kernel
theorem dL_law_1175 : decode cL_law 1175 = .ok (.dload 7, 2) := by decide +kernel
theorem dL_law_1177 : decode cL_law 1177 = .ok (.dcmp .l, 1) := by decide +kernel
theorem dL_law_1178 : decode cL_law 1178 = .ok (.ifCond .ne 5, 3) := by decide +kernel
theorem dL_law_1181 : decode cL_law 1181 = .ok (.iconst 0, 1) := by decide +kernel
theorem dL_law_1182 : decode cL_law 1182 = .ok (.ireturn, 1) := by decide +kernel
theorem dL_law_1183 : decode cL_law 1183 = .ok (.goto 143, 3) := by decide +kernel
theorem dL_law_1186 : decode cL_law 1186 = .ok (.aload_n 1, 1) := by decide +kernel
theorem dL_law_1187 : decode cL_law 1187 = .ok (.aload_n 0, 1) := by decide +kernel
theorem dL_law_1188 : decode cL_law 1188 = .ok (.iload 4, 2) := by decide +kernel
theorem dL_law_1190 : decode cL_law 1190 = .ok (.iconst 1, 1) := by decide +kernel
theorem dL_law_1191 : decode cL_law 1191 = .ok (.iadd, 1) := by decide +kernel
theorem dL_law_1192 : decode cL_law 1192 = .ok (.iaload, 1) := by decide +kernel
theorem dL_law_1193 : decode cL_law 1193 = .ok (.aload_n 3, 1) := by decide +kernel
theorem dL_law_1194 : decode cL_law 1194 = .ok (.invokestatic 146, 3) := by decide +kernel
theorem dL_law_1197 : decode cL_law 1197 = .ok (.istore 5, 2) := by decide +kernel
theorem dL_law_1199 : decode cL_law 1199 = .ok (.aload_n 2, 1) := by decide +kernel
theorem dL_law_1200 : decode cL_law 1200 = .ok (.aload_n 0, 1) := by decide +kernel
theorem dL_law_1201 : decode cL_law 1201 = .ok (.iload 4, 2) := by decide +kernel
theorem dL_law_1203 : decode cL_law 1203 = .ok (.iconst 1, 1) := by decide +kernel
theorem dL_law_1204 : decode cL_law 1204 = .ok (.iadd, 1) := by decide +kernel
theorem dL_law_1205 : decode cL_law 1205 = .ok (.iaload, 1) := by decide +kernel
theorem dL_law_1206 : decode cL_law 1206 = .ok (.invokevirtual 148, 3) := by decide +kernel
theorem dL_law_1209 : decode cL_law 1209 = .ok (.istore 6, 2) := by decide +kernel
theorem dL_law_1211 : decode cL_law 1211 = .ok (.aload_n 2, 1) := by decide +kernel
theorem dL_law_1212 : decode cL_law 1212 = .ok (.invokevirtual 77, 3) := by decide +kernel
theorem dL_law_1215 : decode cL_law 1215 = .ok (.iload 5, 2) := by decide +kernel
theorem dL_law_1217 : decode cL_law 1217 = .ok (.if_icmp .eq 5, 3) := by decide +kernel
theorem dL_law_1220 : decode cL_law 1220 = .ok (.iconst 0, 1) := by decide +kernel
theorem dL_law_1221 : decode cL_law 1221 = .ok (.ireturn, 1) := by decide +kernel
theorem dL_law_1222 : decode cL_law 1222 = .ok (.iload 5, 2) := by decide +kernel
theorem dL_law_1224 : decode cL_law 1224 = .ok (.ifCond .ne 15, 3) := by decide +kernel
theorem dL_law_1227 : decode cL_law 1227 = .ok (.aload_n 3, 1) := by decide +kernel
theorem dL_law_1228 : decode cL_law 1228 = .ok (.iconst 0, 1) := by decide +kernel
theorem dL_law_1229 : decode cL_law 1229 = .ok (.laload, 1) := by decide +kernel
theorem dL_law_1230 : decode cL_law 1230 = .ok (.iload 6, 2) := by decide +kernel
theorem dL_law_1232 : decode cL_law 1232 = .ok (.i2l, 1) := by decide +kernel
theorem dL_law_1233 : decode cL_law 1233 = .ok (.lcmp, 1) := by decide +kernel
theorem dL_law_1234 : decode cL_law 1234 = .ok (.ifCond .eq 5, 3) := by decide +kernel
theorem dL_law_1237 : decode cL_law 1237 = .ok (.iconst 0, 1) := by decide +kernel
theorem dL_law_1238 : decode cL_law 1238 = .ok (.ireturn, 1) := by decide +kernel
theorem dL_law_1239 : decode cL_law 1239 = .ok (.goto 87, 3) := by decide +kernel
theorem dL_law_1242 : decode cL_law 1242 = .ok (.aload_n 1, 1) := by decide +kernel
theorem dL_law_1243 : decode cL_law 1243 = .ok (.invokevirtual 149, 3) := by decide +kernel
theorem dL_law_1246 : decode cL_law 1246 = .ok (.aload_n 2, 1) := by decide +kernel
theorem dL_law_1247 : decode cL_law 1247 = .ok (.invokevirtual 152, 3) := by decide +kernel
theorem dL_law_1250 : decode cL_law 1250 = .ok (.if_icmp .eq 76, 3) := by decide +kernel
theorem dL_law_1253 : decode cL_law 1253 = .ok (.iconst 0, 1) := by decide +kernel
theorem dL_law_1254 : decode cL_law 1254 = .ok (.ireturn, 1) := by decide +kernel
theorem dL_law_1255 : decode cL_law 1255 = .ok (.aload_n 1, 1) := by decide +kernel
theorem dL_law_1256 : decode cL_law 1256 = .ok (.invokevirtual 153, 3) := by decide +kernel
theorem dL_law_1259 : decode cL_law 1259 = .ok (.aload_n 2, 1) := by decide +kernel
theorem dL_law_1260 : decode cL_law 1260 = .ok (.invokevirtual 156, 3) := by decide +kernel
theorem dL_law_1263 : decode cL_law 1263 = .ok (.if_icmp .eq 63, 3) := by decide +kernel
theorem dL_law_1266 : decode cL_law 1266 = .ok (.iconst 0, 1) := by decide +kernel
theorem dL_law_1267 : decode cL_law 1267 = .ok (.ireturn, 1) := by decide +kernel
theorem dL_law_1268 : decode cL_law 1268 = .ok (.aload_n 1, 1) := by decide +kernel
theorem dL_law_1269 : decode cL_law 1269 = .ok (.aload_n 3, 1) := by decide +kernel
theorem dL_law_1270 : decode cL_law 1270 = .ok (.invokestatic 157, 3) := by decide +kernel
theorem dL_law_1273 : decode cL_law 1273 = .ok (.istore 5, 2) := by decide +kernel
theorem dL_law_1275 : decode cL_law 1275 = .ok (.aload_n 2, 1) := by decide +kernel
theorem dL_law_1276 : decode cL_law 1276 = .ok (.invokevirtual 160, 3) := by decide +kernel
theorem dL_law_1279 : decode cL_law 1279 = .ok (.istore 6, 2) := by decide +kernel
theorem dL_law_1281 : decode cL_law 1281 = .ok (.aload_n 2, 1) := by decide +kernel
theorem dL_law_1282 : decode cL_law 1282 = .ok (.invokevirtual 77, 3) := by decide +kernel
theorem dL_law_1285 : decode cL_law 1285 = .ok (.iload 5, 2) := by decide +kernel
theorem dL_law_1287 : decode cL_law 1287 = .ok (.if_icmp .eq 5, 3) := by decide +kernel
theorem dL_law_1290 : decode cL_law 1290 = .ok (.iconst 0, 1) := by decide +kernel
theorem dL_law_1291 : decode cL_law 1291 = .ok (.ireturn, 1) := by decide +kernel
theorem dL_law_1292 : decode cL_law 1292 = .ok (.iload 5, 2) := by decide +kernel
theorem dL_law_1294 : decode cL_law 1294 = .ok (.ifCond .ne 15, 3) := by decide +kernel
theorem dL_law_1297 : decode cL_law 1297 = .ok (.aload_n 3, 1) := by decide +kernel
theorem dL_law_1298 : decode cL_law 1298 = .ok (.iconst 0, 1) := by decide +kernel
theorem dL_law_1299 : decode cL_law 1299 = .ok (.laload, 1) := by decide +kernel
theorem dL_law_1300 : decode cL_law 1300 = .ok (.iload 6, 2) := by decide +kernel
theorem dL_law_1302 : decode cL_law 1302 = .ok (.i2l, 1) := by decide +kernel
theorem dL_law_1303 : decode cL_law 1303 = .ok (.lcmp, 1) := by decide +kernel
theorem dL_law_1304 : decode cL_law 1304 = .ok (.ifCond .eq 5, 3) := by decide +kernel
theorem dL_law_1307 : decode cL_law 1307 = .ok (.iconst 0, 1) := by decide +kernel
theorem dL_law_1308 : decode cL_law 1308 = .ok (.ireturn, 1) := by decide +kernel
theorem dL_law_1309 : decode cL_law 1309 = .ok (.goto 17, 3) := by decide +kernel
theorem dL_law_1312 : decode cL_law 1312 = .ok (.aload_n 1, 1) := by decide +kernel
theorem dL_law_1313 : decode cL_law 1313 = .ok (.invokevirtual 161, 3) := by decide +kernel
theorem dL_law_1316 : decode cL_law 1316 = .ok (.aload_n 2, 1) := by decide +kernel
theorem dL_law_1317 : decode cL_law 1317 = .ok (.invokevirtual 165, 3) := by decide +kernel
theorem dL_law_1320 : decode cL_law 1320 = .ok (.lcmp, 1) := by decide +kernel
theorem dL_law_1321 : decode cL_law 1321 = .ok (.ifCond .eq 5, 3) := by decide +kernel
theorem dL_law_1324 : decode cL_law 1324 = .ok (.iconst 0, 1) := by decide +kernel
theorem dL_law_1325 : decode cL_law 1325 = .ok (.ireturn, 1) := by decide +kernel
theorem dL_law_1326 : decode cL_law 1326 = .ok (.iinc 4 4, 3) := by decide +kernel
theorem dL_law_1329 : decode cL_law 1329 = .ok (.goto (-1306), 3) := by decide +kernel
theorem dL_law_1332 : decode cL_law 1332 = .ok (.iconst 1, 1) := by decide +kernel
theorem dL_law_1333 : decode cL_law 1333 = .ok (.ireturn, 1) := by decide +kernel
