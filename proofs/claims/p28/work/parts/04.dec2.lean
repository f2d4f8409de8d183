theorem dX5_takeOut_44 : decode cX5_takeOut 44 = .ok (.aload_n 0, 1) := by decide +kernel
theorem dX5_takeOut_45 : decode cX5_takeOut 45 = .ok (.getfield 40, 3) := by decide +kernel
theorem dX5_takeOut_48 : decode cX5_takeOut 48 = .ok (.iload_n 2, 1) := by decide +kernel
theorem dX5_takeOut_49 : decode cX5_takeOut 49 = .ok (.invokevirtual 138, 3) := by decide +kernel
theorem dX5_takeOut_52 : decode cX5_takeOut 52 = .ok (.iconst (-1), 1) := by decide +kernel
theorem dX5_takeOut_53 : decode cX5_takeOut 53 = .ok (.if_icmp .ne 13, 3) := by decide +kernel
theorem dX5_takeOut_56 : decode cX5_takeOut 56 = .ok (.new 99, 3) := by decide +kernel
theorem dX5_takeOut_59 : decode cX5_takeOut 59 = .ok (.dup, 1) := by decide +kernel
theorem dX5_takeOut_60 : decode cX5_takeOut 60 = .ok (.ldc 142, 2) := by decide +kernel
theorem dX5_takeOut_62 : decode cX5_takeOut 62 = .ok (.invokespecial 103, 3) := by decide +kernel
theorem dX5_takeOut_65 : decode cX5_takeOut 65 = .ok (.athrow, 1) := by decide +kernel
theorem dX5_takeOut_66 : decode cX5_takeOut 66 = .ok (.aload_n 0, 1) := by decide +kernel
theorem dX5_takeOut_67 : decode cX5_takeOut 67 = .ok (.invokevirtual 81, 3) := by decide +kernel
theorem dX5_takeOut_70 : decode cX5_takeOut 70 = .ok (.aload_n 0, 1) := by decide +kernel
theorem dX5_takeOut_71 : decode cX5_takeOut 71 = .ok (.getfield 10, 3) := by decide +kernel
theorem dX5_takeOut_74 : decode cX5_takeOut 74 = .ok (.aload_n 0, 1) := by decide +kernel
theorem dX5_takeOut_75 : decode cX5_takeOut 75 = .ok (.getfield 40, 3) := by decide +kernel
theorem dX5_takeOut_78 : decode cX5_takeOut 78 = .ok (.iload_n 2, 1) := by decide +kernel
theorem dX5_takeOut_79 : decode cX5_takeOut 79 = .ok (.invokevirtual 144, 3) := by decide +kernel
theorem dX5_takeOut_82 : decode cX5_takeOut 82 = .ok (.ireturn, 1) := by decide +kernel
theorem dX5_takeAll_0 : decode cX5_takeAll 0 = .ok (.aload_n 0, 1) := by decide +kernel
theorem dX5_takeAll_1 : decode cX5_takeAll 1 = .ok (.invokevirtual 81, 3) := by decide +kernel
theorem dX5_takeAll_4 : decode cX5_takeAll 4 = .ok (.aload_n 0, 1) := by decide +kernel
theorem dX5_takeAll_5 : decode cX5_takeAll 5 = .ok (.aload_n 0, 1) := by decide +kernel
theorem dX5_takeAll_6 : decode cX5_takeAll 6 = .ok (.getfield 10, 3) := by decide +kernel
theorem dX5_takeAll_9 : decode cX5_takeAll 9 = .ok (.invokevirtual 148, 3) := by decide +kernel
theorem dX5_takeAll_12 : decode cX5_takeAll 12 = .ok (.ireturn, 1) := by decide +kernel
theorem dX5_setMelt_0 : decode cX5_setMelt 0 = .ok (.iload_n 1, 1) := by decide +kernel
theorem dX5_setMelt_1 : decode cX5_setMelt 1 = .ok (.iconst 0, 1) := by decide +kernel
theorem dX5_setMelt_2 : decode cX5_setMelt 2 = .ok (.bipush 9, 2) := by decide +kernel
theorem dX5_setMelt_4 : decode cX5_setMelt 4 = .ok (.invokestatic 70, 3) := by decide +kernel
theorem dX5_setMelt_7 : decode cX5_setMelt 7 = .ok (.ifCond .eq 13, 3) := by decide +kernel
theorem dX5_setMelt_10 : decode cX5_setMelt 10 = .ok (.new 74, 3) := by decide +kernel
theorem dX5_setMelt_13 : decode cX5_setMelt 13 = .ok (.dup, 1) := by decide +kernel
theorem dX5_setMelt_14 : decode cX5_setMelt 14 = .ok (.ldc 152, 2) := by decide +kernel
theorem dX5_setMelt_16 : decode cX5_setMelt 16 = .ok (.invokespecial 78, 3) := by decide +kernel
theorem dX5_setMelt_19 : decode cX5_setMelt 19 = .ok (.athrow, 1) := by decide +kernel
theorem dX5_setMelt_20 : decode cX5_setMelt 20 = .ok (.aload_n 0, 1) := by decide +kernel
theorem dX5_setMelt_21 : decode cX5_setMelt 21 = .ok (.invokevirtual 81, 3) := by decide +kernel
theorem dX5_setMelt_24 : decode cX5_setMelt 24 = .ok (.aload_n 0, 1) := by decide +kernel
theorem dX5_setMelt_25 : decode cX5_setMelt 25 = .ok (.getfield 10, 3) := by decide +kernel
theorem dX5_setMelt_28 : decode cX5_setMelt 28 = .ok (.getfield 60, 3) := by decide +kernel
theorem dX5_setMelt_31 : decode cX5_setMelt 31 = .ok (.istore_n 2, 1) := by decide +kernel
theorem dX5_setMelt_32 : decode cX5_setMelt 32 = .ok (.aload_n 0, 1) := by decide +kernel
theorem dX5_setMelt_33 : decode cX5_setMelt 33 = .ok (.getfield 10, 3) := by decide +kernel
theorem dX5_setMelt_36 : decode cX5_setMelt 36 = .ok (.iload_n 1, 1) := by decide +kernel
theorem dX5_setMelt_37 : decode cX5_setMelt 37 = .ok (.putfield 60, 3) := by decide +kernel
theorem dX5_setMelt_40 : decode cX5_setMelt 40 = .ok (.iload_n 2, 1) := by decide +kernel
theorem dX5_setMelt_41 : decode cX5_setMelt 41 = .ok (.ireturn, 1) := by decide +kernel
theorem dX5_pass_0 : decode cX5_pass 0 = .ok (.iload_n 1, 1) := by decide +kernel
theorem dX5_pass_1 : decode cX5_pass 1 = .ok (.iconst 1, 1) := by decide +kernel
theorem dX5_pass_2 : decode cX5_pass 2 = .ok (.bipush 50, 2) := by decide +kernel
theorem dX5_pass_4 : decode cX5_pass 4 = .ok (.invokestatic 70, 3) := by decide +kernel
theorem dX5_pass_7 : decode cX5_pass 7 = .ok (.ifCond .eq 13, 3) := by decide +kernel
theorem dX5_pass_10 : decode cX5_pass 10 = .ok (.new 74, 3) := by decide +kernel
theorem dX5_pass_13 : decode cX5_pass 13 = .ok (.dup, 1) := by decide +kernel
theorem dX5_pass_14 : decode cX5_pass 14 = .ok (.ldc 154, 2) := by decide +kernel
theorem dX5_pass_16 : decode cX5_pass 16 = .ok (.invokespecial 78, 3) := by decide +kernel
theorem dX5_pass_19 : decode cX5_pass 19 = .ok (.athrow, 1) := by decide +kernel
theorem dX5_pass_20 : decode cX5_pass 20 = .ok (.aload_n 0, 1) := by decide +kernel
theorem dX5_pass_21 : decode cX5_pass 21 = .ok (.invokevirtual 81, 3) := by decide +kernel
theorem dX5_pass_24 : decode cX5_pass 24 = .ok (.aload_n 0, 1) := by decide +kernel
theorem dX5_pass_25 : decode cX5_pass 25 = .ok (.getfield 10, 3) := by decide +kernel
theorem dX5_pass_28 : decode cX5_pass 28 = .ok (.getfield 156, 3) := by decide +kernel
theorem dX5_pass_31 : decode cX5_pass 31 = .ok (.istore_n 2, 1) := by decide +kernel
theorem dX5_pass_32 : decode cX5_pass 32 = .ok (.iconst 0, 1) := by decide +kernel
theorem dX5_pass_33 : decode cX5_pass 33 = .ok (.istore_n 3, 1) := by decide +kernel
theorem dX5_pass_34 : decode cX5_pass 34 = .ok (.iload_n 3, 1) := by decide +kernel
theorem dX5_pass_35 : decode cX5_pass 35 = .ok (.iload_n 1, 1) := by decide +kernel
theorem dX5_pass_36 : decode cX5_pass 36 = .ok (.if_icmp .ge 16, 3) := by decide +kernel
theorem dX5_pass_39 : decode cX5_pass 39 = .ok (.aload_n 0, 1) := by decide +kernel
theorem dX5_pass_40 : decode cX5_pass 40 = .ok (.getfield 10, 3) := by decide +kernel
theorem dX5_pass_43 : decode cX5_pass 43 = .ok (.invokevirtual 159, 3) := by decide +kernel
theorem dX5_pass_46 : decode cX5_pass 46 = .ok (.iinc 3 1, 3) := by decide +kernel
theorem dX5_pass_49 : decode cX5_pass 49 = .ok (.goto (-15), 3) := by decide +kernel
theorem dX5_pass_52 : decode cX5_pass 52 = .ok (.aload_n 0, 1) := by decide +kernel
theorem dX5_pass_53 : decode cX5_pass 53 = .ok (.getfield 10, 3) := by decide +kernel
theorem dX5_pass_56 : decode cX5_pass 56 = .ok (.getfield 156, 3) := by decide +kernel
theorem dX5_pass_59 : decode cX5_pass 59 = .ok (.iload_n 2, 1) := by decide +kernel
theorem dX5_pass_60 : decode cX5_pass 60 = .ok (.isub, 1) := by decide +kernel
theorem dX5_pass_61 : decode cX5_pass 61 = .ok (.ireturn, 1) := by decide +kernel
theorem dX5_cell_0 : decode cX5_cell 0 = .ok (.aload_n 0, 1) := by decide +kernel
theorem dX5_cell_1 : decode cX5_cell 1 = .ok (.iload_n 1, 1) := by decide +kernel
theorem dX5_cell_2 : decode cX5_cell 2 = .ok (.invokevirtual 87, 3) := by decide +kernel
theorem dX5_cell_5 : decode cX5_cell 5 = .ok (.iload_n 2, 1) := by decide +kernel
theorem dX5_cell_6 : decode cX5_cell 6 = .ok (.iconst 0, 1) := by decide +kernel
theorem dX5_cell_7 : decode cX5_cell 7 = .ok (.bipush 6, 2) := by decide +kernel
theorem dX5_cell_9 : decode cX5_cell 9 = .ok (.invokestatic 70, 3) := by decide +kernel
theorem dX5_cell_12 : decode cX5_cell 12 = .ok (.ifCond .eq 13, 3) := by decide +kernel
theorem dX5_cell_15 : decode cX5_cell 15 = .ok (.new 74, 3) := by decide +kernel
theorem dX5_cell_18 : decode cX5_cell 18 = .ok (.dup, 1) := by decide +kernel
theorem dX5_cell_19 : decode cX5_cell 19 = .ok (.ldc 162, 2) := by decide +kernel
theorem dX5_cell_21 : decode cX5_cell 21 = .ok (.invokespecial 78, 3) := by decide +kernel
theorem dX5_cell_24 : decode cX5_cell 24 = .ok (.athrow, 1) := by decide +kernel
theorem dX5_cell_25 : decode cX5_cell 25 = .ok (.iload_n 2, 1) := by decide +kernel
theorem dX5_cell_26 : decode cX5_cell 26 = .ok (.iconst 5, 1) := by decide +kernel
theorem dX5_cell_27 : decode cX5_cell 27 = .ok (.if_icmp .ne 14, 3) := by decide +kernel
theorem dX5_cell_30 : decode cX5_cell 30 = .ok (.aload_n 0, 1) := by decide +kernel
theorem dX5_cell_31 : decode cX5_cell 31 = .ok (.getfield 40, 3) := by decide +kernel
theorem dX5_cell_34 : decode cX5_cell 34 = .ok (.aload_n 0, 1) := by decide +kernel
theorem dX5_cell_35 : decode cX5_cell 35 = .ok (.getfield 10, 3) := by decide +kernel
theorem dX5_cell_38 : decode cX5_cell 38 = .ok (.invokevirtual 127, 3) := by decide +kernel
theorem dX5_cell_41 : decode cX5_cell 41 = .ok (.aload_n 0, 1) := by decide +kernel
theorem dX5_cell_42 : decode cX5_cell 42 = .ok (.iload_n 1, 1) := by decide +kernel
theorem dX5_cell_43 : decode cX5_cell 43 = .ok (.iload_n 2, 1) := by decide +kernel
theorem dX5_cell_44 : decode cX5_cell 44 = .ok (.invokevirtual 164, 3) := by decide +kernel
theorem dX5_cell_47 : decode cX5_cell 47 = .ok (.ireturn, 1) := by decide +kernel
theorem dX5_block_0 : decode cX5_block 0 = .ok (.aload_n 0, 1) := by decide +kernel
theorem dX5_block_1 : decode cX5_block 1 = .ok (.iload_n 1, 1) := by decide +kernel
theorem dX5_block_2 : decode cX5_block 2 = .ok (.invokevirtual 87, 3) := by decide +kernel
theorem dX5_block_5 : decode cX5_block 5 = .ok (.iload_n 2, 1) := by decide +kernel
theorem dX5_block_6 : decode cX5_block 6 = .ok (.iconst 0, 1) := by decide +kernel
theorem dX5_block_7 : decode cX5_block 7 = .ok (.iconst 4, 1) := by decide +kernel
theorem dX5_block_8 : decode cX5_block 8 = .ok (.invokestatic 70, 3) := by decide +kernel
theorem dX5_block_11 : decode cX5_block 11 = .ok (.ifCond .eq 13, 3) := by decide +kernel
theorem dX5_block_14 : decode cX5_block 14 = .ok (.new 74, 3) := by decide +kernel
theorem dX5_block_17 : decode cX5_block 17 = .ok (.dup, 1) := by decide +kernel
theorem dX5_block_18 : decode cX5_block 18 = .ok (.ldc 162, 2) := by decide +kernel
theorem dX5_block_20 : decode cX5_block 20 = .ok (.invokespecial 78, 3) := by decide +kernel
theorem dX5_block_23 : decode cX5_block 23 = .ok (.athrow, 1) := by decide +kernel
theorem dX5_block_24 : decode cX5_block 24 = .ok (.aload_n 0, 1) := by decide +kernel
theorem dX5_block_25 : decode cX5_block 25 = .ok (.getfield 40, 3) := by decide +kernel
theorem dX5_block_28 : decode cX5_block 28 = .ok (.aload_n 0, 1) := by decide +kernel
theorem dX5_block_29 : decode cX5_block 29 = .ok (.getfield 10, 3) := by decide +kernel
theorem dX5_block_32 : decode cX5_block 32 = .ok (.invokevirtual 127, 3) := by decide +kernel
theorem dX5_block_35 : decode cX5_block 35 = .ok (.iload_n 2, 1) := by decide +kernel
theorem dX5_block_36 : decode cX5_block 36 = .ok (.iconst 4, 1) := by decide +kernel
theorem dX5_block_37 : decode cX5_block 37 = .ok (.if_icmp .ne 15, 3) := by decide +kernel
theorem dX5_block_40 : decode cX5_block 40 = .ok (.aload_n 0, 1) := by decide +kernel
theorem dX5_block_41 : decode cX5_block 41 = .ok (.aload_n 0, 1) := by decide +kernel
theorem dX5_block_42 : decode cX5_block 42 = .ok (.getfield 40, 3) := by decide +kernel
theorem dX5_block_45 : decode cX5_block 45 = .ok (.iload_n 1, 1) := by decide +kernel
theorem dX5_block_46 : decode cX5_block 46 = .ok (.invokevirtual 131, 3) := by decide +kernel
theorem dX5_block_49 : decode cX5_block 49 = .ok (.invokevirtual 167, 3) := by decide +kernel
theorem dX5_block_52 : decode cX5_block 52 = .ok (.aload_n 0, 1) := by decide +kernel
theorem dX5_block_53 : decode cX5_block 53 = .ok (.iload_n 1, 1) := by decide +kernel
theorem dX5_block_54 : decode cX5_block 54 = .ok (.iload_n 2, 1) := by decide +kernel
theorem dX5_block_55 : decode cX5_block 55 = .ok (.invokevirtual 170, 3) := by decide +kernel
theorem dX5_block_58 : decode cX5_block 58 = .ok (.ireturn, 1) := by decide +kernel
theorem dX5_value_0 : decode cX5_value 0 = .ok (.iload_n 1, 1) := by decide +kernel
theorem dX5_value_1 : decode cX5_value 1 = .ok (.iconst 0, 1) := by decide +kernel
theorem dX5_value_2 : decode cX5_value 2 = .ok (.bipush 13, 2) := by decide +kernel
theorem dX5_value_4 : decode cX5_value 4 = .ok (.invokestatic 70, 3) := by decide +kernel
theorem dX5_value_7 : decode cX5_value 7 = .ok (.ifCond .eq 13, 3) := by decide +kernel
theorem dX5_value_10 : decode cX5_value 10 = .ok (.new 74, 3) := by decide +kernel
theorem dX5_value_13 : decode cX5_value 13 = .ok (.dup, 1) := by decide +kernel
theorem dX5_value_14 : decode cX5_value 14 = .ok (.ldc 162, 2) := by decide +kernel
theorem dX5_value_16 : decode cX5_value 16 = .ok (.invokespecial 78, 3) := by decide +kernel
theorem dX5_value_19 : decode cX5_value 19 = .ok (.athrow, 1) := by decide +kernel
theorem dX5_value_20 : decode cX5_value 20 = .ok (.iload_n 1, 1) := by decide +kernel
theorem dX5_value_21 : decode cX5_value 21 = .ok (.iconst 3, 1) := by decide +kernel
theorem dX5_value_22 : decode cX5_value 22 = .ok (.iconst 5, 1) := by decide +kernel
theorem dX5_value_23 : decode cX5_value 23 = .ok (.invokestatic 70, 3) := by decide +kernel
theorem dX5_value_26 : decode cX5_value 26 = .ok (.ifCond .ne 7, 3) := by decide +kernel
theorem dX5_value_29 : decode cX5_value 29 = .ok (.aload_n 0, 1) := by decide +kernel
theorem dX5_value_30 : decode cX5_value 30 = .ok (.invokevirtual 181, 3) := by decide +kernel
theorem dX5_value_33 : decode cX5_value 33 = .ok (.aload_n 0, 1) := by decide +kernel
theorem dX5_value_34 : decode cX5_value 34 = .ok (.iload_n 1, 1) := by decide +kernel
theorem dX5_value_35 : decode cX5_value 35 = .ok (.invokevirtual 184, 3) := by decide +kernel
theorem dX5_value_38 : decode cX5_value 38 = .ok (.ireturn, 1) := by decide +kernel
theorem dX5_cutsAround_0 : decode cX5_cutsAround 0 = .ok (.aload_n 0, 1) := by decide +kernel
theorem dX5_cutsAround_1 : decode cX5_cutsAround 1 = .ok (.iload_n 1, 1) := by decide +kernel
theorem dX5_cutsAround_2 : decode cX5_cutsAround 2 = .ok (.iload_n 2, 1) := by decide +kernel
theorem dX5_cutsAround_3 : decode cX5_cutsAround 3 = .ok (.iload_n 3, 1) := by decide +kernel
theorem dX5_cutsAround_4 : decode cX5_cutsAround 4 = .ok (.invokevirtual 119, 3) := by decide +kernel
theorem dX5_cutsAround_7 : decode cX5_cutsAround 7 = .ok (.aload_n 0, 1) := by decide +kernel
theorem dX5_cutsAround_8 : decode cX5_cutsAround 8 = .ok (.getfield 16, 3) := by decide +kernel
theorem dX5_cutsAround_11 : decode cX5_cutsAround 11 = .ok (.aload_n 0, 1) := by decide +kernel
theorem dX5_cutsAround_12 : decode cX5_cutsAround 12 = .ok (.getfield 10, 3) := by decide +kernel
theorem dX5_cutsAround_15 : decode cX5_cutsAround 15 = .ok (.invokevirtual 196, 3) := by decide +kernel
theorem dX5_cutsAround_18 : decode cX5_cutsAround 18 = .ok (.aload_n 0, 1) := by decide +kernel
theorem dX5_cutsAround_19 : decode cX5_cutsAround 19 = .ok (.getfield 16, 3) := by decide +kernel
theorem dX5_cutsAround_22 : decode cX5_cutsAround 22 = .ok (.iload_n 1, 1) := by decide +kernel
theorem dX5_cutsAround_23 : decode cX5_cutsAround 23 = .ok (.iload_n 2, 1) := by decide +kernel
theorem dX5_cutsAround_24 : decode cX5_cutsAround 24 = .ok (.iload_n 3, 1) := by decide +kernel
theorem dX5_cutsAround_25 : decode cX5_cutsAround 25 = .ok (.invokevirtual 123, 3) := by decide +kernel
theorem dX5_cutsAround_28 : decode cX5_cutsAround 28 = .ok (.ireturn, 1) := by decide +kernel
theorem dX5_takable_0 : decode cX5_takable 0 = .ok (.aload_n 0, 1) := by decide +kernel
theorem dX5_takable_1 : decode cX5_takable 1 = .ok (.getfield 16, 3) := by decide +kernel
theorem dX5_takable_4 : decode cX5_takable 4 = .ok (.aload_n 0, 1) := by decide +kernel
theorem dX5_takable_5 : decode cX5_takable 5 = .ok (.getfield 10, 3) := by decide +kernel
theorem dX5_takable_8 : decode cX5_takable 8 = .ok (.invokevirtual 196, 3) := by decide +kernel
theorem dX5_takable_11 : decode cX5_takable 11 = .ok (.aload_n 0, 1) := by decide +kernel
theorem dX5_takable_12 : decode cX5_takable 12 = .ok (.aload_n 0, 1) := by decide +kernel
theorem dX5_takable_13 : decode cX5_takable 13 = .ok (.getfield 16, 3) := by decide +kernel
theorem dX5_takable_16 : decode cX5_takable 16 = .ok (.invokevirtual 148, 3) := by decide +kernel
theorem dX5_takable_19 : decode cX5_takable 19 = .ok (.ireturn, 1) := by decide +kernel
theorem dX5_leftStranded_0 : decode cX5_leftStranded 0 = .ok (.aload_n 0, 1) := by decide +kernel
theorem dX5_leftStranded_1 : decode cX5_leftStranded 1 = .ok (.getfield 16, 3) := by decide +kernel
theorem dX5_leftStranded_4 : decode cX5_leftStranded 4 = .ok (.aload_n 0, 1) := by decide +kernel
theorem dX5_leftStranded_5 : decode cX5_leftStranded 5 = .ok (.getfield 10, 3) := by decide +kernel
theorem dX5_leftStranded_8 : decode cX5_leftStranded 8 = .ok (.invokevirtual 196, 3) := by decide +kernel
theorem dX5_leftStranded_11 : decode cX5_leftStranded 11 = .ok (.aload_n 0, 1) := by decide +kernel
theorem dX5_leftStranded_12 : decode cX5_leftStranded 12 = .ok (.aload_n 0, 1) := by decide +kernel
theorem dX5_leftStranded_13 : decode cX5_leftStranded 13 = .ok (.getfield 16, 3) := by decide +kernel
theorem dX5_leftStranded_16 : decode cX5_leftStranded 16 = .ok (.invokevirtual 148, 3) := by decide +kernel
theorem dX5_leftStranded_19 : decode cX5_leftStranded 19 = .ok (.pop, 1) := by decide +kernel
theorem dX5_leftStranded_20 : decode cX5_leftStranded 20 = .ok (.aload_n 0, 1) := by decide +kernel
theorem dX5_leftStranded_21 : decode cX5_leftStranded 21 = .ok (.getfield 40, 3) := by decide +kernel
theorem dX5_leftStranded_24 : decode cX5_leftStranded 24 = .ok (.invokevirtual 199, 3) := by decide +kernel
theorem dX5_leftStranded_27 : decode cX5_leftStranded 27 = .ok (.ireturn, 1) := by decide +kernel
theorem dX5_daysWhole_0 : decode cX5_daysWhole 0 = .ok (.aload_n 0, 1) := by decide +kernel
theorem dX5_daysWhole_1 : decode cX5_daysWhole 1 = .ok (.iload_n 1, 1) := by decide +kernel
theorem dX5_daysWhole_2 : decode cX5_daysWhole 2 = .ok (.invokevirtual 87, 3) := by decide +kernel
theorem dX5_daysWhole_5 : decode cX5_daysWhole 5 = .ok (.aload_n 0, 1) := by decide +kernel
theorem dX5_daysWhole_6 : decode cX5_daysWhole 6 = .ok (.getfield 40, 3) := by decide +kernel
theorem dX5_daysWhole_9 : decode cX5_daysWhole 9 = .ok (.aload_n 0, 1) := by decide +kernel
theorem dX5_daysWhole_10 : decode cX5_daysWhole 10 = .ok (.getfield 10, 3) := by decide +kernel
theorem dX5_daysWhole_13 : decode cX5_daysWhole 13 = .ok (.invokevirtual 127, 3) := by decide +kernel
theorem dX5_daysWhole_16 : decode cX5_daysWhole 16 = .ok (.aload_n 0, 1) := by decide +kernel
theorem dX5_daysWhole_17 : decode cX5_daysWhole 17 = .ok (.getfield 40, 3) := by decide +kernel
theorem dX5_daysWhole_20 : decode cX5_daysWhole 20 = .ok (.iload_n 1, 1) := by decide +kernel
theorem dX5_daysWhole_21 : decode cX5_daysWhole 21 = .ok (.invokevirtual 131, 3) := by decide +kernel
theorem dX5_daysWhole_24 : decode cX5_daysWhole 24 = .ok (.istore_n 2, 1) := by decide +kernel
theorem dX5_daysWhole_25 : decode cX5_daysWhole 25 = .ok (.aload_n 0, 1) := by decide +kernel
theorem dX5_daysWhole_26 : decode cX5_daysWhole 26 = .ok (.getfield 40, 3) := by decide +kernel
theorem dX5_daysWhole_29 : decode cX5_daysWhole 29 = .ok (.iload_n 2, 1) := by decide +kernel
theorem dX5_daysWhole_30 : decode cX5_daysWhole 30 = .ok (.invokevirtual 134, 3) := by decide +kernel
theorem dX5_daysWhole_33 : decode cX5_daysWhole 33 = .ok (.ifCond .ne 5, 3) := by decide +kernel
theorem dX5_daysWhole_36 : decode cX5_daysWhole 36 = .ok (.iconst (-1), 1) := by decide +kernel
theorem dX5_daysWhole_37 : decode cX5_daysWhole 37 = .ok (.ireturn, 1) := by decide +kernel
theorem dX5_daysWhole_38 : decode cX5_daysWhole 38 = .ok (.aload_n 0, 1) := by decide +kernel
theorem dX5_daysWhole_39 : decode cX5_daysWhole 39 = .ok (.getfield 16, 3) := by decide +kernel
theorem dX5_daysWhole_42 : decode cX5_daysWhole 42 = .ok (.aload_n 0, 1) := by decide +kernel
theorem dX5_daysWhole_43 : decode cX5_daysWhole 43 = .ok (.getfield 10, 3) := by decide +kernel
theorem dX5_daysWhole_46 : decode cX5_daysWhole 46 = .ok (.invokevirtual 196, 3) := by decide +kernel
theorem dX5_daysWhole_49 : decode cX5_daysWhole 49 = .ok (.iconst 1, 1) := by decide +kernel
theorem dX5_daysWhole_50 : decode cX5_daysWhole 50 = .ok (.istore_n 3, 1) := by decide +kernel
theorem dX5_daysWhole_51 : decode cX5_daysWhole 51 = .ok (.iload_n 3, 1) := by decide +kernel
theorem dX5_daysWhole_52 : decode cX5_daysWhole 52 = .ok (.bipush 60, 2) := by decide +kernel
theorem dX5_daysWhole_54 : decode cX5_daysWhole 54 = .ok (.if_icmp .gt 30, 3) := by decide +kernel
theorem dX5_daysWhole_57 : decode cX5_daysWhole 57 = .ok (.aload_n 0, 1) := by decide +kernel
theorem dX5_daysWhole_58 : decode cX5_daysWhole 58 = .ok (.getfield 16, 3) := by decide +kernel
theorem dX5_daysWhole_61 : decode cX5_daysWhole 61 = .ok (.invokevirtual 159, 3) := by decide +kernel
theorem dX5_daysWhole_64 : decode cX5_daysWhole 64 = .ok (.aload_n 0, 1) := by decide +kernel
theorem dX5_daysWhole_65 : decode cX5_daysWhole 65 = .ok (.aload_n 0, 1) := by decide +kernel
theorem dX5_daysWhole_66 : decode cX5_daysWhole 66 = .ok (.getfield 16, 3) := by decide +kernel
theorem dX5_daysWhole_69 : decode cX5_daysWhole 69 = .ok (.iload_n 2, 1) := by decide +kernel
theorem dX5_daysWhole_70 : decode cX5_daysWhole 70 = .ok (.invokevirtual 202, 3) := by decide +kernel
theorem dX5_daysWhole_73 : decode cX5_daysWhole 73 = .ok (.ifCond .eq 5, 3) := by decide +kernel
theorem dX5_daysWhole_76 : decode cX5_daysWhole 76 = .ok (.iload_n 3, 1) := by decide +kernel
theorem dX5_daysWhole_77 : decode cX5_daysWhole 77 = .ok (.ireturn, 1) := by decide +kernel
theorem dX5_daysWhole_78 : decode cX5_daysWhole 78 = .ok (.iinc 3 1, 3) := by decide +kernel
theorem dX5_daysWhole_81 : decode cX5_daysWhole 81 = .ok (.goto (-30), 3) := by decide +kernel
theorem dX5_daysWhole_84 : decode cX5_daysWhole 84 = .ok (.iconst (-1), 1) := by decide +kernel
theorem dX5_daysWhole_85 : decode cX5_daysWhole 85 = .ok (.ireturn, 1) := by decide +kernel
theorem dX5_daysToWater_0 : decode cX5_daysToWater 0 = .ok (.aload_n 0, 1) := by decide +kernel
theorem dX5_daysToWater_1 : decode cX5_daysToWater 1 = .ok (.getfield 16, 3) := by decide +kernel
theorem dX5_daysToWater_4 : decode cX5_daysToWater 4 = .ok (.aload_n 0, 1) := by decide +kernel
theorem dX5_daysToWater_5 : decode cX5_daysToWater 5 = .ok (.getfield 10, 3) := by decide +kernel
theorem dX5_daysToWater_8 : decode cX5_daysToWater 8 = .ok (.invokevirtual 196, 3) := by decide +kernel
theorem dX5_daysToWater_11 : decode cX5_daysToWater 11 = .ok (.iconst 0, 1) := by decide +kernel
theorem dX5_daysToWater_12 : decode cX5_daysToWater 12 = .ok (.istore_n 1, 1) := by decide +kernel
theorem dX5_daysToWater_13 : decode cX5_daysToWater 13 = .ok (.iload_n 1, 1) := by decide +kernel
theorem dX5_daysToWater_14 : decode cX5_daysToWater 14 = .ok (.bipush 60, 2) := by decide +kernel
theorem dX5_daysToWater_16 : decode cX5_daysToWater 16 = .ok (.if_icmp .gt 28, 3) := by decide +kernel
theorem dX5_daysToWater_19 : decode cX5_daysToWater 19 = .ok (.aload_n 0, 1) := by decide +kernel
theorem dX5_daysToWater_20 : decode cX5_daysToWater 20 = .ok (.getfield 16, 3) := by decide +kernel
theorem dX5_daysToWater_23 : decode cX5_daysToWater 23 = .ok (.invokevirtual 206, 3) := by decide +kernel
theorem dX5_daysToWater_26 : decode cX5_daysToWater 26 = .ok (.ifCond .ne 5, 3) := by decide +kernel
theorem dX5_daysToWater_29 : decode cX5_daysToWater 29 = .ok (.iload_n 1, 1) := by decide +kernel
theorem dX5_daysToWater_30 : decode cX5_daysToWater 30 = .ok (.ireturn, 1) := by decide +kernel
theorem dX5_daysToWater_31 : decode cX5_daysToWater 31 = .ok (.aload_n 0, 1) := by decide +kernel
theorem dX5_daysToWater_32 : decode cX5_daysToWater 32 = .ok (.getfield 16, 3) := by decide +kernel
theorem dX5_daysToWater_35 : decode cX5_daysToWater 35 = .ok (.invokevirtual 159, 3) := by decide +kernel
theorem dX5_daysToWater_38 : decode cX5_daysToWater 38 = .ok (.iinc 1 1, 3) := by decide +kernel
theorem dX5_daysToWater_41 : decode cX5_daysToWater 41 = .ok (.goto (-28), 3) := by decide +kernel
theorem dX5_daysToWater_44 : decode cX5_daysToWater 44 = .ok (.iconst (-1), 1) := by decide +kernel
theorem dX5_daysToWater_45 : decode cX5_daysToWater 45 = .ok (.ireturn, 1) := by decide +kernel
theorem dX5_harvest_0 : decode cX5_harvest 0 = .ok (.aload_n 0, 1) := by decide +kernel
theorem dX5_harvest_1 : decode cX5_harvest 1 = .ok (.getfield 10, 3) := by decide +kernel
theorem dX5_harvest_4 : decode cX5_harvest 4 = .ok (.getfield 84, 3) := by decide +kernel
theorem dX5_harvest_7 : decode cX5_harvest 7 = .ok (.ifCond .ne 7, 3) := by decide +kernel
theorem dX5_harvest_10 : decode cX5_harvest 10 = .ok (.dconst 0, 1) := by decide +kernel
theorem dX5_harvest_11 : decode cX5_harvest 11 = .ok (.goto 20, 3) := by decide +kernel
theorem dX5_harvest_14 : decode cX5_harvest 14 = .ok (.aload_n 0, 1) := by decide +kernel
theorem dX5_harvest_15 : decode cX5_harvest 15 = .ok (.getfield 10, 3) := by decide +kernel
theorem dX5_harvest_18 : decode cX5_harvest 18 = .ok (.getfield 221, 3) := by decide +kernel
theorem dX5_harvest_21 : decode cX5_harvest 21 = .ok (.i2d, 1) := by decide +kernel
theorem dX5_harvest_22 : decode cX5_harvest 22 = .ok (.aload_n 0, 1) := by decide +kernel
theorem dX5_harvest_23 : decode cX5_harvest 23 = .ok (.getfield 10, 3) := by decide +kernel
theorem dX5_harvest_26 : decode cX5_harvest 26 = .ok (.getfield 84, 3) := by decide +kernel
theorem dX5_harvest_29 : decode cX5_harvest 29 = .ok (.i2d, 1) := by decide +kernel
theorem dX5_harvest_30 : decode cX5_harvest 30 = .ok (.ddiv, 1) := by decide +kernel
theorem dX5_harvest_31 : decode cX5_harvest 31 = .ok (.dreturn, 1) := by decide +kernel
theorem dX5_undo_0 : decode cX5_undo 0 = .ok (.aload_n 0, 1) := by decide +kernel
theorem dX5_undo_1 : decode cX5_undo 1 = .ok (.getfield 27, 3) := by decide +kernel
theorem dX5_undo_4 : decode cX5_undo 4 = .ok (.ifCond .gt 13, 3) := by decide +kernel
theorem dX5_undo_7 : decode cX5_undo 7 = .ok (.new 99, 3) := by decide +kernel
theorem dX5_undo_10 : decode cX5_undo 10 = .ok (.dup, 1) := by decide +kernel
theorem dX5_undo_11 : decode cX5_undo 11 = .ok (.ldc 251, 2) := by decide +kernel
theorem dX5_undo_13 : decode cX5_undo 13 = .ok (.invokespecial 103, 3) := by decide +kernel
theorem dX5_undo_16 : decode cX5_undo 16 = .ok (.athrow, 1) := by decide +kernel
theorem dX5_undo_17 : decode cX5_undo 17 = .ok (.aload_n 0, 1) := by decide +kernel
theorem dX5_undo_18 : decode cX5_undo 18 = .ok (.aload_n 0, 1) := by decide +kernel
theorem dX5_undo_19 : decode cX5_undo 19 = .ok (.getfield 23, 3) := by decide +kernel
theorem dX5_undo_22 : decode cX5_undo 22 = .ok (.iconst 4, 1) := by decide +kernel
theorem dX5_undo_23 : decode cX5_undo 23 = .ok (.iadd, 1) := by decide +kernel
theorem dX5_undo_24 : decode cX5_undo 24 = .ok (.iconst 1, 1) := by decide +kernel
theorem dX5_undo_25 : decode cX5_undo 25 = .ok (.isub, 1) := by decide +kernel
theorem dX5_undo_26 : decode cX5_undo 26 = .ok (.iconst 4, 1) := by decide +kernel
theorem dX5_undo_27 : decode cX5_undo 27 = .ok (.irem, 1) := by decide +kernel
theorem dX5_undo_28 : decode cX5_undo 28 = .ok (.putfield 23, 3) := by decide +kernel
theorem dX5_undo_31 : decode cX5_undo 31 = .ok (.aload_n 0, 1) := by decide +kernel
theorem dX5_undo_32 : decode cX5_undo 32 = .ok (.dup, 1) := by decide +kernel
theorem dX5_undo_33 : decode cX5_undo 33 = .ok (.getfield 27, 3) := by decide +kernel
theorem dX5_undo_36 : decode cX5_undo 36 = .ok (.iconst 1, 1) := by decide +kernel
theorem dX5_undo_37 : decode cX5_undo 37 = .ok (.isub, 1) := by decide +kernel
theorem dX5_undo_38 : decode cX5_undo 38 = .ok (.putfield 27, 3) := by decide +kernel
theorem dX5_undo_41 : decode cX5_undo 41 = .ok (.aload_n 0, 1) := by decide +kernel
theorem dX5_undo_42 : decode cX5_undo 42 = .ok (.aload_n 0, 1) := by decide +kernel
theorem dX5_undo_43 : decode cX5_undo 43 = .ok (.getfield 23, 3) := by decide +kernel
theorem dX5_undo_46 : decode cX5_undo 46 = .ok (.invokevirtual 253, 3) := by decide +kernel
theorem dX5_undo_49 : decode cX5_undo 49 = .ok (.astore_n 1, 1) := by decide +kernel
theorem dX5_undo_50 : decode cX5_undo 50 = .ok (.aload_n 1, 1) := by decide +kernel
theorem dX5_undo_51 : decode cX5_undo 51 = .ok (.ifnull 11, 3) := by decide +kernel
theorem dX5_undo_54 : decode cX5_undo 54 = .ok (.aload_n 0, 1) := by decide +kernel
theorem dX5_undo_55 : decode cX5_undo 55 = .ok (.getfield 10, 3) := by decide +kernel
theorem dX5_undo_58 : decode cX5_undo 58 = .ok (.aload_n 1, 1) := by decide +kernel
theorem dX5_undo_59 : decode cX5_undo 59 = .ok (.invokevirtual 196, 3) := by decide +kernel
theorem dX5_undo_62 : decode cX5_undo 62 = .ok (.aload_n 0, 1) := by decide +kernel
theorem dX5_undo_63 : decode cX5_undo 63 = .ok (.getfield 27, 3) := by decide +kernel
theorem dX5_undo_66 : decode cX5_undo 66 = .ok (.ireturn, 1) := by decide +kernel
theorem dX5_isOutside_0 : decode cX5_isOutside 0 = .ok (.iload_n 0, 1) := by decide +kernel
theorem dX5_isOutside_1 : decode cX5_isOutside 1 = .ok (.iload_n 1, 1) := by decide +kernel
theorem dX5_isOutside_2 : decode cX5_isOutside 2 = .ok (.if_icmp .lt 8, 3) := by decide +kernel
theorem dX5_isOutside_5 : decode cX5_isOutside 5 = .ok (.iload_n 0, 1) := by decide +kernel
theorem dX5_isOutside_6 : decode cX5_isOutside 6 = .ok (.iload_n 2, 1) := by decide +kernel
theorem dX5_isOutside_7 : decode cX5_isOutside 7 = .ok (.if_icmp .le 7, 3) := by decide +kernel
theorem dX5_isOutside_10 : decode cX5_isOutside 10 = .ok (.iconst 1, 1) := by decide +kernel
theorem dX5_isOutside_11 : decode cX5_isOutside 11 = .ok (.goto 4, 3) := by decide +kernel
theorem dX5_isOutside_14 : decode cX5_isOutside 14 = .ok (.iconst 0, 1) := by decide +kernel
theorem dX5_isOutside_15 : decode cX5_isOutside 15 = .ok (.ireturn, 1) := by decide +kernel
theorem dX5_checkCell_0 : decode cX5_checkCell 0 = .ok (.iload_n 1, 1) := by decide +kernel
theorem dX5_checkCell_1 : decode cX5_checkCell 1 = .ok (.iconst 0, 1) := by decide +kernel
theorem dX5_checkCell_2 : decode cX5_checkCell 2 = .ok (.aload_n 0, 1) := by decide +kernel
theorem dX5_checkCell_3 : decode cX5_checkCell 3 = .ok (.getfield 10, 3) := by decide +kernel
theorem dX5_checkCell_6 : decode cX5_checkCell 6 = .ok (.invokevirtual 212, 3) := by decide +kernel
theorem dX5_checkCell_9 : decode cX5_checkCell 9 = .ok (.iconst 1, 1) := by decide +kernel
theorem dX5_checkCell_10 : decode cX5_checkCell 10 = .ok (.isub, 1) := by decide +kernel
theorem dX5_checkCell_11 : decode cX5_checkCell 11 = .ok (.invokestatic 70, 3) := by decide +kernel
theorem dX5_checkCell_14 : decode cX5_checkCell 14 = .ok (.ifCond .eq 14, 3) := by decide +kernel
theorem dX5_checkCell_17 : decode cX5_checkCell 17 = .ok (.new 173, 3) := by decide +kernel
theorem dX5_checkCell_20 : decode cX5_checkCell 20 = .ok (.dup, 1) := by decide +kernel
theorem dX5_checkCell_21 : decode cX5_checkCell 21 = .ok (.ldc_w 261, 3) := by decide +kernel
theorem dX5_checkCell_24 : decode cX5_checkCell 24 = .ok (.invokespecial 177, 3) := by decide +kernel
theorem dX5_checkCell_27 : decode cX5_checkCell 27 = .ok (.athrow, 1) := by decide +kernel
theorem dX5_checkCell_28 : decode cX5_checkCell 28 = .ok (.return_, 1) := by decide +kernel
theorem dX5_checkRectangle_0 : decode cX5_checkRectangle 0 = .ok (.aload_n 0, 1) := by decide +kernel
theorem dX5_checkRectangle_1 : decode cX5_checkRectangle 1 = .ok (.iload_n 1, 1) := by decide +kernel
theorem dX5_checkRectangle_2 : decode cX5_checkRectangle 2 = .ok (.invokevirtual 87, 3) := by decide +kernel
theorem dX5_checkRectangle_5 : decode cX5_checkRectangle 5 = .ok (.iload_n 2, 1) := by decide +kernel
theorem dX5_checkRectangle_6 : decode cX5_checkRectangle 6 = .ok (.iconst 1, 1) := by decide +kernel
theorem dX5_checkRectangle_7 : decode cX5_checkRectangle 7 = .ok (.bipush 7, 2) := by decide +kernel
theorem dX5_checkRectangle_9 : decode cX5_checkRectangle 9 = .ok (.invokestatic 70, 3) := by decide +kernel
theorem dX5_checkRectangle_12 : decode cX5_checkRectangle 12 = .ok (.ifCond .ne 53, 3) := by decide +kernel
theorem dX5_checkRectangle_15 : decode cX5_checkRectangle 15 = .ok (.iload_n 3, 1) := by decide +kernel
theorem dX5_checkRectangle_16 : decode cX5_checkRectangle 16 = .ok (.iconst 1, 1) := by decide +kernel
theorem dX5_checkRectangle_17 : decode cX5_checkRectangle 17 = .ok (.bipush 7, 2) := by decide +kernel
theorem dX5_checkRectangle_19 : decode cX5_checkRectangle 19 = .ok (.invokestatic 70, 3) := by decide +kernel
theorem dX5_checkRectangle_22 : decode cX5_checkRectangle 22 = .ok (.ifCond .ne 43, 3) := by decide +kernel
theorem dX5_checkRectangle_25 : decode cX5_checkRectangle 25 = .ok (.aload_n 0, 1) := by decide +kernel
theorem dX5_checkRectangle_26 : decode cX5_checkRectangle 26 = .ok (.getfield 10, 3) := by decide +kernel
theorem dX5_checkRectangle_29 : decode cX5_checkRectangle 29 = .ok (.iload_n 1, 1) := by decide +kernel
theorem dX5_checkRectangle_30 : decode cX5_checkRectangle 30 = .ok (.invokevirtual 245, 3) := by decide +kernel
theorem dX5_checkRectangle_33 : decode cX5_checkRectangle 33 = .ok (.iload_n 2, 1) := by decide +kernel
theorem dX5_checkRectangle_34 : decode cX5_checkRectangle 34 = .ok (.iadd, 1) := by decide +kernel
theorem dX5_checkRectangle_35 : decode cX5_checkRectangle 35 = .ok (.aload_n 0, 1) := by decide +kernel
theorem dX5_checkRectangle_36 : decode cX5_checkRectangle 36 = .ok (.getfield 10, 3) := by decide +kernel
theorem dX5_checkRectangle_39 : decode cX5_checkRectangle 39 = .ok (.getfield 263, 3) := by decide +kernel
theorem dX5_checkRectangle_42 : decode cX5_checkRectangle 42 = .ok (.if_icmp .gt 23, 3) := by decide +kernel
theorem dX5_checkRectangle_45 : decode cX5_checkRectangle 45 = .ok (.aload_n 0, 1) := by decide +kernel
theorem dX5_checkRectangle_46 : decode cX5_checkRectangle 46 = .ok (.getfield 10, 3) := by decide +kernel
theorem dX5_checkRectangle_49 : decode cX5_checkRectangle 49 = .ok (.iload_n 1, 1) := by decide +kernel
theorem dX5_checkRectangle_50 : decode cX5_checkRectangle 50 = .ok (.invokevirtual 242, 3) := by decide +kernel
theorem dX5_checkRectangle_53 : decode cX5_checkRectangle 53 = .ok (.iload_n 3, 1) := by decide +kernel
theorem dX5_checkRectangle_54 : decode cX5_checkRectangle 54 = .ok (.iadd, 1) := by decide +kernel
theorem dX5_checkRectangle_55 : decode cX5_checkRectangle 55 = .ok (.aload_n 0, 1) := by decide +kernel
theorem dX5_checkRectangle_56 : decode cX5_checkRectangle 56 = .ok (.getfield 10, 3) := by decide +kernel
theorem dX5_checkRectangle_59 : decode cX5_checkRectangle 59 = .ok (.getfield 264, 3) := by decide +kernel
theorem dX5_checkRectangle_62 : decode cX5_checkRectangle 62 = .ok (.if_icmp .le 14, 3) := by decide +kernel
theorem dX5_checkRectangle_65 : decode cX5_checkRectangle 65 = .ok (.new 74, 3) := by decide +kernel
theorem dX5_checkRectangle_68 : decode cX5_checkRectangle 68 = .ok (.dup, 1) := by decide +kernel
theorem dX5_checkRectangle_69 : decode cX5_checkRectangle 69 = .ok (.ldc_w 265, 3) := by decide +kernel
theorem dX5_checkRectangle_72 : decode cX5_checkRectangle 72 = .ok (.invokespecial 78, 3) := by decide +kernel
theorem dX5_checkRectangle_75 : decode cX5_checkRectangle 75 = .ok (.athrow, 1) := by decide +kernel
theorem dX5_checkRectangle_76 : decode cX5_checkRectangle 76 = .ok (.return_, 1) := by decide +kernel
theorem dX5_saveState_0 : decode cX5_saveState 0 = .ok (.aload_n 0, 1) := by decide +kernel
theorem dX5_saveState_1 : decode cX5_saveState 1 = .ok (.aload_n 0, 1) := by decide +kernel
theorem dX5_saveState_2 : decode cX5_saveState 2 = .ok (.getfield 23, 3) := by decide +kernel
theorem dX5_saveState_5 : decode cX5_saveState 5 = .ok (.invokevirtual 253, 3) := by decide +kernel
theorem dX5_saveState_8 : decode cX5_saveState 8 = .ok (.astore_n 1, 1) := by decide +kernel
theorem dX5_saveState_9 : decode cX5_saveState 9 = .ok (.aload_n 1, 1) := by decide +kernel
theorem dX5_saveState_10 : decode cX5_saveState 10 = .ok (.ifnull 11, 3) := by decide +kernel
theorem dX5_saveState_13 : decode cX5_saveState 13 = .ok (.aload_n 1, 1) := by decide +kernel
theorem dX5_saveState_14 : decode cX5_saveState 14 = .ok (.aload_n 0, 1) := by decide +kernel
theorem dX5_saveState_15 : decode cX5_saveState 15 = .ok (.getfield 10, 3) := by decide +kernel
theorem dX5_saveState_18 : decode cX5_saveState 18 = .ok (.invokevirtual 196, 3) := by decide +kernel
theorem dX5_saveState_21 : decode cX5_saveState 21 = .ok (.aload_n 0, 1) := by decide +kernel
theorem dX5_saveState_22 : decode cX5_saveState 22 = .ok (.aload_n 0, 1) := by decide +kernel
theorem dX5_saveState_23 : decode cX5_saveState 23 = .ok (.getfield 23, 3) := by decide +kernel
theorem dX5_saveState_26 : decode cX5_saveState 26 = .ok (.iconst 1, 1) := by decide +kernel
theorem dX5_saveState_27 : decode cX5_saveState 27 = .ok (.iadd, 1) := by decide +kernel
theorem dX5_saveState_28 : decode cX5_saveState 28 = .ok (.iconst 4, 1) := by decide +kernel
theorem dX5_saveState_29 : decode cX5_saveState 29 = .ok (.irem, 1) := by decide +kernel
theorem dX5_saveState_30 : decode cX5_saveState 30 = .ok (.putfield 23, 3) := by decide +kernel
theorem dX5_saveState_33 : decode cX5_saveState 33 = .ok (.aload_n 0, 1) := by decide +kernel
theorem dX5_saveState_34 : decode cX5_saveState 34 = .ok (.getfield 27, 3) := by decide +kernel
theorem dX5_saveState_37 : decode cX5_saveState 37 = .ok (.iconst 4, 1) := by decide +kernel
theorem dX5_saveState_38 : decode cX5_saveState 38 = .ok (.if_icmp .ge 13, 3) := by decide +kernel
theorem dX5_saveState_41 : decode cX5_saveState 41 = .ok (.aload_n 0, 1) := by decide +kernel
theorem dX5_saveState_42 : decode cX5_saveState 42 = .ok (.dup, 1) := by decide +kernel
theorem dX5_saveState_43 : decode cX5_saveState 43 = .ok (.getfield 27, 3) := by decide +kernel
theorem dX5_saveState_46 : decode cX5_saveState 46 = .ok (.iconst 1, 1) := by decide +kernel
theorem dX5_saveState_47 : decode cX5_saveState 47 = .ok (.iadd, 1) := by decide +kernel
theorem dX5_saveState_48 : decode cX5_saveState 48 = .ok (.putfield 27, 3) := by decide +kernel
theorem dX5_saveState_51 : decode cX5_saveState 51 = .ok (.return_, 1) := by decide +kernel
theorem dX5_savedAt_0 : decode cX5_savedAt 0 = .ok (.iload_n 1, 1) := by decide +kernel
theorem dX5_savedAt_1 : decode cX5_savedAt 1 = .ok (.ifCond .lt 21, 3) := by decide +kernel
theorem dX5_savedAt_4 : decode cX5_savedAt 4 = .ok (.iload_n 1, 1) := by decide +kernel
theorem dX5_savedAt_5 : decode cX5_savedAt 5 = .ok (.aload_n 0, 1) := by decide +kernel
theorem dX5_savedAt_6 : decode cX5_savedAt 6 = .ok (.getfield 19, 3) := by decide +kernel
theorem dX5_savedAt_9 : decode cX5_savedAt 9 = .ok (.arraylength, 1) := by decide +kernel
theorem dX5_savedAt_10 : decode cX5_savedAt 10 = .ok (.if_icmp .ge 12, 3) := by decide +kernel
theorem dX5_savedAt_13 : decode cX5_savedAt 13 = .ok (.aload_n 0, 1) := by decide +kernel
theorem dX5_savedAt_14 : decode cX5_savedAt 14 = .ok (.getfield 19, 3) := by decide +kernel
theorem dX5_savedAt_17 : decode cX5_savedAt 17 = .ok (.iload_n 1, 1) := by decide +kernel
theorem dX5_savedAt_18 : decode cX5_savedAt 18 = .ok (.aaload, 1) := by decide +kernel
theorem dX5_savedAt_19 : decode cX5_savedAt 19 = .ok (.goto 4, 3) := by decide +kernel
theorem dX5_savedAt_22 : decode cX5_savedAt 22 = .ok (.aconst_null, 1) := by decide +kernel
theorem dX5_savedAt_23 : decode cX5_savedAt 23 = .ok (.areturn, 1) := by decide +kernel
theorem dX5_fieldFact_0 : decode cX5_fieldFact 0 = .ok (.iload_n 1, 1) := by decide +kernel
theorem dX5_fieldFact_1 : decode cX5_fieldFact 1 = .ok (.tableswitch 174 0 12 #[67, 75, 83, 91, 99, 107, 112, 123, 131, 139, 147, 158, 166], 67) := by decide +kernel
theorem dX5_fieldFact_68 : decode cX5_fieldFact 68 = .ok (.aload_n 0, 1) := by decide +kernel
theorem dX5_fieldFact_69 : decode cX5_fieldFact 69 = .ok (.getfield 10, 3) := by decide +kernel
theorem dX5_fieldFact_72 : decode cX5_fieldFact 72 = .ok (.getfield 263, 3) := by decide +kernel
theorem dX5_fieldFact_75 : decode cX5_fieldFact 75 = .ok (.ireturn, 1) := by decide +kernel
theorem dX5_fieldFact_76 : decode cX5_fieldFact 76 = .ok (.aload_n 0, 1) := by decide +kernel
theorem dX5_fieldFact_77 : decode cX5_fieldFact 77 = .ok (.getfield 10, 3) := by decide +kernel
theorem dX5_fieldFact_80 : decode cX5_fieldFact 80 = .ok (.getfield 264, 3) := by decide +kernel
theorem dX5_fieldFact_83 : decode cX5_fieldFact 83 = .ok (.ireturn, 1) := by decide +kernel
theorem dX5_fieldFact_84 : decode cX5_fieldFact 84 = .ok (.aload_n 0, 1) := by decide +kernel
theorem dX5_fieldFact_85 : decode cX5_fieldFact 85 = .ok (.getfield 10, 3) := by decide +kernel
theorem dX5_fieldFact_88 : decode cX5_fieldFact 88 = .ok (.invokevirtual 206, 3) := by decide +kernel
theorem dX5_fieldFact_91 : decode cX5_fieldFact 91 = .ok (.ireturn, 1) := by decide +kernel
theorem dX5_fieldFact_92 : decode cX5_fieldFact 92 = .ok (.aload_n 0, 1) := by decide +kernel
theorem dX5_fieldFact_93 : decode cX5_fieldFact 93 = .ok (.getfield 40, 3) := by decide +kernel
theorem dX5_fieldFact_96 : decode cX5_fieldFact 96 = .ok (.invokevirtual 267, 3) := by decide +kernel
theorem dX5_fieldFact_99 : decode cX5_fieldFact 99 = .ok (.ireturn, 1) := by decide +kernel
theorem dX5_fieldFact_100 : decode cX5_fieldFact 100 = .ok (.aload_n 0, 1) := by decide +kernel
theorem dX5_fieldFact_101 : decode cX5_fieldFact 101 = .ok (.getfield 40, 3) := by decide +kernel
theorem dX5_fieldFact_104 : decode cX5_fieldFact 104 = .ok (.invokevirtual 199, 3) := by decide +kernel
theorem dX5_fieldFact_107 : decode cX5_fieldFact 107 = .ok (.ireturn, 1) := by decide +kernel
theorem dX5_fieldFact_108 : decode cX5_fieldFact 108 = .ok (.aload_n 0, 1) := by decide +kernel
theorem dX5_fieldFact_109 : decode cX5_fieldFact 109 = .ok (.invokevirtual 270, 3) := by decide +kernel
theorem dX5_fieldFact_112 : decode cX5_fieldFact 112 = .ok (.ireturn, 1) := by decide +kernel
theorem dX5_fieldFact_113 : decode cX5_fieldFact 113 = .ok (.aload_n 0, 1) := by decide +kernel
theorem dX5_fieldFact_114 : decode cX5_fieldFact 114 = .ok (.getfield 10, 3) := by decide +kernel
theorem dX5_fieldFact_117 : decode cX5_fieldFact 117 = .ok (.getfield 273, 3) := by decide +kernel
theorem dX5_fieldFact_120 : decode cX5_fieldFact 120 = .ok (.invokevirtual 276, 3) := by decide +kernel
theorem dX5_fieldFact_123 : decode cX5_fieldFact 123 = .ok (.ireturn, 1) := by decide +kernel
theorem dX5_fieldFact_124 : decode cX5_fieldFact 124 = .ok (.aload_n 0, 1) := by decide +kernel
theorem dX5_fieldFact_125 : decode cX5_fieldFact 125 = .ok (.getfield 10, 3) := by decide +kernel
theorem dX5_fieldFact_128 : decode cX5_fieldFact 128 = .ok (.getfield 60, 3) := by decide +kernel
theorem dX5_fieldFact_131 : decode cX5_fieldFact 131 = .ok (.ireturn, 1) := by decide +kernel
theorem dX5_fieldFact_132 : decode cX5_fieldFact 132 = .ok (.aload_n 0, 1) := by decide +kernel
theorem dX5_fieldFact_133 : decode cX5_fieldFact 133 = .ok (.getfield 10, 3) := by decide +kernel
theorem dX5_fieldFact_136 : decode cX5_fieldFact 136 = .ok (.getfield 279, 3) := by decide +kernel
theorem dX5_fieldFact_139 : decode cX5_fieldFact 139 = .ok (.ireturn, 1) := by decide +kernel
theorem dX5_fieldFact_140 : decode cX5_fieldFact 140 = .ok (.aload_n 0, 1) := by decide +kernel
theorem dX5_fieldFact_141 : decode cX5_fieldFact 141 = .ok (.getfield 10, 3) := by decide +kernel
theorem dX5_fieldFact_144 : decode cX5_fieldFact 144 = .ok (.getfield 84, 3) := by decide +kernel
theorem dX5_fieldFact_147 : decode cX5_fieldFact 147 = .ok (.ireturn, 1) := by decide +kernel
theorem dX5_fieldFact_148 : decode cX5_fieldFact 148 = .ok (.aload_n 0, 1) := by decide +kernel
theorem dX5_fieldFact_149 : decode cX5_fieldFact 149 = .ok (.getfield 10, 3) := by decide +kernel
theorem dX5_fieldFact_152 : decode cX5_fieldFact 152 = .ok (.getfield 92, 3) := by decide +kernel
theorem dX5_fieldFact_155 : decode cX5_fieldFact 155 = .ok (.invokevirtual 276, 3) := by decide +kernel
theorem dX5_fieldFact_158 : decode cX5_fieldFact 158 = .ok (.ireturn, 1) := by decide +kernel
theorem dX5_fieldFact_159 : decode cX5_fieldFact 159 = .ok (.aload_n 0, 1) := by decide +kernel
theorem dX5_fieldFact_160 : decode cX5_fieldFact 160 = .ok (.getfield 10, 3) := by decide +kernel
theorem dX5_fieldFact_163 : decode cX5_fieldFact 163 = .ok (.getfield 221, 3) := by decide +kernel
theorem dX5_fieldFact_166 : decode cX5_fieldFact 166 = .ok (.ireturn, 1) := by decide +kernel
theorem dX5_fieldFact_167 : decode cX5_fieldFact 167 = .ok (.aload_n 0, 1) := by decide +kernel
theorem dX5_fieldFact_168 : decode cX5_fieldFact 168 = .ok (.getfield 10, 3) := by decide +kernel
theorem dX5_fieldFact_171 : decode cX5_fieldFact 171 = .ok (.getfield 156, 3) := by decide +kernel
theorem dX5_fieldFact_174 : decode cX5_fieldFact 174 = .ok (.ireturn, 1) := by decide +kernel
theorem dX5_fieldFact_175 : decode cX5_fieldFact 175 = .ok (.aload_n 0, 1) := by decide +kernel
theorem dX5_fieldFact_176 : decode cX5_fieldFact 176 = .ok (.getfield 10, 3) := by decide +kernel
theorem dX5_fieldFact_179 : decode cX5_fieldFact 179 = .ok (.getfield 282, 3) := by decide +kernel
theorem dX5_fieldFact_182 : decode cX5_fieldFact 182 = .ok (.ireturn, 1) := by decide +kernel
theorem dX5_cellFact_0 : decode cX5_cellFact 0 = .ok (.iload_n 2, 1) := by decide +kernel
theorem dX5_cellFact_1 : decode cX5_cellFact 1 = .ok (.lookupswitch 65 #[(0, 35), (5, 47), (6, 56)], 35) := by decide +kernel
theorem dX5_cellFact_36 : decode cX5_cellFact 36 = .ok (.aload_n 0, 1) := by decide +kernel
theorem dX5_cellFact_37 : decode cX5_cellFact 37 = .ok (.getfield 10, 3) := by decide +kernel
theorem dX5_cellFact_40 : decode cX5_cellFact 40 = .ok (.getfield 92, 3) := by decide +kernel
theorem dX5_cellFact_43 : decode cX5_cellFact 43 = .ok (.iload_n 1, 1) := by decide +kernel
theorem dX5_cellFact_44 : decode cX5_cellFact 44 = .ok (.invokevirtual 95, 3) := by decide +kernel
theorem dX5_cellFact_47 : decode cX5_cellFact 47 = .ok (.ireturn, 1) := by decide +kernel
theorem dX5_cellFact_48 : decode cX5_cellFact 48 = .ok (.aload_n 0, 1) := by decide +kernel
theorem dX5_cellFact_49 : decode cX5_cellFact 49 = .ok (.getfield 40, 3) := by decide +kernel
theorem dX5_cellFact_52 : decode cX5_cellFact 52 = .ok (.iload_n 1, 1) := by decide +kernel
theorem dX5_cellFact_53 : decode cX5_cellFact 53 = .ok (.invokevirtual 131, 3) := by decide +kernel
theorem dX5_cellFact_56 : decode cX5_cellFact 56 = .ok (.ireturn, 1) := by decide +kernel
theorem dX5_cellFact_57 : decode cX5_cellFact 57 = .ok (.aload_n 0, 1) := by decide +kernel
theorem dX5_cellFact_58 : decode cX5_cellFact 58 = .ok (.getfield 10, 3) := by decide +kernel
theorem dX5_cellFact_61 : decode cX5_cellFact 61 = .ok (.iload_n 1, 1) := by decide +kernel
theorem dX5_cellFact_62 : decode cX5_cellFact 62 = .ok (.invokevirtual 285, 3) := by decide +kernel
theorem dX5_cellFact_65 : decode cX5_cellFact 65 = .ok (.ireturn, 1) := by decide +kernel
theorem dX5_cellFact_66 : decode cX5_cellFact 66 = .ok (.aload_n 0, 1) := by decide +kernel
theorem dX5_cellFact_67 : decode cX5_cellFact 67 = .ok (.getfield 10, 3) := by decide +kernel
theorem dX5_cellFact_70 : decode cX5_cellFact 70 = .ok (.iload_n 1, 1) := by decide +kernel
theorem dX5_cellFact_71 : decode cX5_cellFact 71 = .ok (.iload_n 2, 1) := by decide +kernel
theorem dX5_cellFact_72 : decode cX5_cellFact 72 = .ok (.iconst 1, 1) := by decide +kernel
theorem dX5_cellFact_73 : decode cX5_cellFact 73 = .ok (.isub, 1) := by decide +kernel
theorem dX5_cellFact_74 : decode cX5_cellFact 74 = .ok (.invokevirtual 288, 3) := by decide +kernel
theorem dX5_cellFact_77 : decode cX5_cellFact 77 = .ok (.ireturn, 1) := by decide +kernel
theorem dX5_blockFact_0 : decode cX5_blockFact 0 = .ok (.aload_n 0, 1) := by decide +kernel
theorem dX5_blockFact_1 : decode cX5_blockFact 1 = .ok (.getfield 40, 3) := by decide +kernel
theorem dX5_blockFact_4 : decode cX5_blockFact 4 = .ok (.iload_n 1, 1) := by decide +kernel
theorem dX5_blockFact_5 : decode cX5_blockFact 5 = .ok (.invokevirtual 131, 3) := by decide +kernel
theorem dX5_blockFact_8 : decode cX5_blockFact 8 = .ok (.istore_n 3, 1) := by decide +kernel
theorem dX5_blockFact_9 : decode cX5_blockFact 9 = .ok (.iload_n 3, 1) := by decide +kernel
theorem dX5_blockFact_10 : decode cX5_blockFact 10 = .ok (.iconst (-1), 1) := by decide +kernel
theorem dX5_blockFact_11 : decode cX5_blockFact 11 = .ok (.if_icmp .ne 5, 3) := by decide +kernel
theorem dX5_blockFact_14 : decode cX5_blockFact 14 = .ok (.iconst (-1), 1) := by decide +kernel
theorem dX5_blockFact_15 : decode cX5_blockFact 15 = .ok (.ireturn, 1) := by decide +kernel
theorem dX5_blockFact_16 : decode cX5_blockFact 16 = .ok (.iload_n 2, 1) := by decide +kernel
theorem dX5_blockFact_17 : decode cX5_blockFact 17 = .ok (.tableswitch 72 0 3 #[31, 33, 42, 55], 31) := by decide +kernel
theorem dX5_blockFact_48 : decode cX5_blockFact 48 = .ok (.iload_n 3, 1) := by decide +kernel
theorem dX5_blockFact_49 : decode cX5_blockFact 49 = .ok (.ireturn, 1) := by decide +kernel
theorem dX5_blockFact_50 : decode cX5_blockFact 50 = .ok (.aload_n 0, 1) := by decide +kernel
theorem dX5_blockFact_51 : decode cX5_blockFact 51 = .ok (.getfield 40, 3) := by decide +kernel
theorem dX5_blockFact_54 : decode cX5_blockFact 54 = .ok (.iload_n 3, 1) := by decide +kernel
theorem dX5_blockFact_55 : decode cX5_blockFact 55 = .ok (.invokevirtual 291, 3) := by decide +kernel
theorem dX5_blockFact_58 : decode cX5_blockFact 58 = .ok (.ireturn, 1) := by decide +kernel
theorem dX5_blockFact_59 : decode cX5_blockFact 59 = .ok (.aload_n 0, 1) := by decide +kernel
theorem dX5_blockFact_60 : decode cX5_blockFact 60 = .ok (.getfield 10, 3) := by decide +kernel
theorem dX5_blockFact_63 : decode cX5_blockFact 63 = .ok (.aload_n 0, 1) := by decide +kernel
theorem dX5_blockFact_64 : decode cX5_blockFact 64 = .ok (.getfield 40, 3) := by decide +kernel
theorem dX5_blockFact_67 : decode cX5_blockFact 67 = .ok (.iload_n 3, 1) := by decide +kernel
theorem dX5_blockFact_68 : decode cX5_blockFact 68 = .ok (.invokevirtual 294, 3) := by decide +kernel
theorem dX5_blockFact_71 : decode cX5_blockFact 71 = .ok (.ireturn, 1) := by decide +kernel
theorem dX5_blockFact_72 : decode cX5_blockFact 72 = .ok (.aload_n 0, 1) := by decide +kernel
theorem dX5_blockFact_73 : decode cX5_blockFact 73 = .ok (.getfield 40, 3) := by decide +kernel
theorem dX5_blockFact_76 : decode cX5_blockFact 76 = .ok (.iload_n 3, 1) := by decide +kernel
theorem dX5_blockFact_77 : decode cX5_blockFact 77 = .ok (.invokevirtual 134, 3) := by decide +kernel
theorem dX5_blockFact_80 : decode cX5_blockFact 80 = .ok (.ifCond .eq 7, 3) := by decide +kernel
theorem dX5_blockFact_83 : decode cX5_blockFact 83 = .ok (.iconst 0, 1) := by decide +kernel
theorem dX5_blockFact_84 : decode cX5_blockFact 84 = .ok (.goto 4, 3) := by decide +kernel
theorem dX5_blockFact_87 : decode cX5_blockFact 87 = .ok (.iconst 1, 1) := by decide +kernel
theorem dX5_blockFact_88 : decode cX5_blockFact 88 = .ok (.ireturn, 1) := by decide +kernel
theorem dX5_blockFact_89 : decode cX5_blockFact 89 = .ok (.aload_n 0, 1) := by decide +kernel
theorem dX5_blockFact_90 : decode cX5_blockFact 90 = .ok (.getfield 56, 3) := by decide +kernel
theorem dX5_blockFact_93 : decode cX5_blockFact 93 = .ok (.iload_n 3, 1) := by decide +kernel
theorem dX5_blockFact_94 : decode cX5_blockFact 94 = .ok (.invokevirtual 95, 3) := by decide +kernel
theorem dX5_blockFact_97 : decode cX5_blockFact 97 = .ok (.ireturn, 1) := by decide +kernel
theorem dX5_countStranded_0 : decode cX5_countStranded 0 = .ok (.iconst 0, 1) := by decide +kernel
theorem dX5_countStranded_1 : decode cX5_countStranded 1 = .ok (.istore_n 1, 1) := by decide +kernel
theorem dX5_countStranded_2 : decode cX5_countStranded 2 = .ok (.iconst 0, 1) := by decide +kernel
theorem dX5_countStranded_3 : decode cX5_countStranded 3 = .ok (.istore_n 2, 1) := by decide +kernel
theorem dX5_countStranded_4 : decode cX5_countStranded 4 = .ok (.iload_n 2, 1) := by decide +kernel
theorem dX5_countStranded_5 : decode cX5_countStranded 5 = .ok (.aload_n 0, 1) := by decide +kernel
theorem dX5_countStranded_6 : decode cX5_countStranded 6 = .ok (.getfield 10, 3) := by decide +kernel
theorem dX5_countStranded_9 : decode cX5_countStranded 9 = .ok (.invokevirtual 212, 3) := by decide +kernel
theorem dX5_countStranded_12 : decode cX5_countStranded 12 = .ok (.if_icmp .ge 20, 3) := by decide +kernel
theorem dX5_countStranded_15 : decode cX5_countStranded 15 = .ok (.aload_n 0, 1) := by decide +kernel
theorem dX5_countStranded_16 : decode cX5_countStranded 16 = .ok (.iload_n 2, 1) := by decide +kernel
theorem dX5_countStranded_17 : decode cX5_countStranded 17 = .ok (.invokevirtual 297, 3) := by decide +kernel
theorem dX5_countStranded_20 : decode cX5_countStranded 20 = .ok (.ifCond .eq 6, 3) := by decide +kernel
theorem dX5_countStranded_23 : decode cX5_countStranded 23 = .ok (.iinc 1 1, 3) := by decide +kernel
theorem dX5_countStranded_26 : decode cX5_countStranded 26 = .ok (.iinc 2 1, 3) := by decide +kernel
theorem dX5_countStranded_29 : decode cX5_countStranded 29 = .ok (.goto (-25), 3) := by decide +kernel
theorem dX5_countStranded_32 : decode cX5_countStranded 32 = .ok (.iload_n 1, 1) := by decide +kernel
theorem dX5_countStranded_33 : decode cX5_countStranded 33 = .ok (.ireturn, 1) := by decide +kernel
theorem dX5_findWayOf_0 : decode cX5_findWayOf 0 = .ok (.aload_n 0, 1) := by decide +kernel
theorem dX5_findWayOf_1 : decode cX5_findWayOf 1 = .ok (.getfield 56, 3) := by decide +kernel
theorem dX5_findWayOf_4 : decode cX5_findWayOf 4 = .ok (.iload_n 1, 1) := by decide +kernel
theorem dX5_findWayOf_5 : decode cX5_findWayOf 5 = .ok (.aload_n 0, 1) := by decide +kernel
theorem dX5_findWayOf_6 : decode cX5_findWayOf 6 = .ok (.getfield 40, 3) := by decide +kernel
theorem dX5_findWayOf_9 : decode cX5_findWayOf 9 = .ok (.iload_n 1, 1) := by decide +kernel
theorem dX5_findWayOf_10 : decode cX5_findWayOf 10 = .ok (.invokevirtual 134, 3) := by decide +kernel
theorem dX5_findWayOf_13 : decode cX5_findWayOf 13 = .ok (.ifCond .eq 22, 3) := by decide +kernel
theorem dX5_findWayOf_16 : decode cX5_findWayOf 16 = .ok (.aload_n 0, 1) := by decide +kernel
theorem dX5_findWayOf_17 : decode cX5_findWayOf 17 = .ok (.getfield 47, 3) := by decide +kernel
theorem dX5_findWayOf_20 : decode cX5_findWayOf 20 = .ok (.aload_n 0, 1) := by decide +kernel
theorem dX5_findWayOf_21 : decode cX5_findWayOf 21 = .ok (.getfield 10, 3) := by decide +kernel
theorem dX5_findWayOf_24 : decode cX5_findWayOf 24 = .ok (.aload_n 0, 1) := by decide +kernel
theorem dX5_findWayOf_25 : decode cX5_findWayOf 25 = .ok (.getfield 40, 3) := by decide +kernel
theorem dX5_findWayOf_28 : decode cX5_findWayOf 28 = .ok (.iload_n 1, 1) := by decide +kernel
theorem dX5_findWayOf_29 : decode cX5_findWayOf 29 = .ok (.invokevirtual 138, 3) := by decide +kernel
theorem dX5_findWayOf_32 : decode cX5_findWayOf 32 = .ok (.goto 4, 3) := by decide +kernel
theorem dX5_findWayOf_35 : decode cX5_findWayOf 35 = .ok (.iconst (-1), 1) := by decide +kernel
theorem dX5_findWayOf_36 : decode cX5_findWayOf 36 = .ok (.invokevirtual 300, 3) := by decide +kernel
theorem dX5_findWayOf_39 : decode cX5_findWayOf 39 = .ok (.return_, 1) := by decide +kernel
theorem dX5_findBlocksAndWays_0 : decode cX5_findBlocksAndWays 0 = .ok (.aload_n 0, 1) := by decide +kernel
theorem dX5_findBlocksAndWays_1 : decode cX5_findBlocksAndWays 1 = .ok (.getfield 40, 3) := by decide +kernel
theorem dX5_findBlocksAndWays_4 : decode cX5_findBlocksAndWays 4 = .ok (.aload_n 0, 1) := by decide +kernel
theorem dX5_findBlocksAndWays_5 : decode cX5_findBlocksAndWays 5 = .ok (.getfield 10, 3) := by decide +kernel
theorem dX5_findBlocksAndWays_8 : decode cX5_findBlocksAndWays 8 = .ok (.invokevirtual 127, 3) := by decide +kernel
theorem dX5_findBlocksAndWays_11 : decode cX5_findBlocksAndWays 11 = .ok (.iconst 0, 1) := by decide +kernel
theorem dX5_findBlocksAndWays_12 : decode cX5_findBlocksAndWays 12 = .ok (.istore_n 1, 1) := by decide +kernel
theorem dX5_findBlocksAndWays_13 : decode cX5_findBlocksAndWays 13 = .ok (.iload_n 1, 1) := by decide +kernel
theorem dX5_findBlocksAndWays_14 : decode cX5_findBlocksAndWays 14 = .ok (.aload_n 0, 1) := by decide +kernel
theorem dX5_findBlocksAndWays_15 : decode cX5_findBlocksAndWays 15 = .ok (.getfield 10, 3) := by decide +kernel
theorem dX5_findBlocksAndWays_18 : decode cX5_findBlocksAndWays 18 = .ok (.invokevirtual 212, 3) := by decide +kernel
theorem dX5_findBlocksAndWays_21 : decode cX5_findBlocksAndWays 21 = .ok (.if_icmp .ge 14, 3) := by decide +kernel
theorem dX5_findBlocksAndWays_24 : decode cX5_findBlocksAndWays 24 = .ok (.aload_n 0, 1) := by decide +kernel
theorem dX5_findBlocksAndWays_25 : decode cX5_findBlocksAndWays 25 = .ok (.iload_n 1, 1) := by decide +kernel
theorem dX5_findBlocksAndWays_26 : decode cX5_findBlocksAndWays 26 = .ok (.invokevirtual 167, 3) := by decide +kernel
theorem dX5_findBlocksAndWays_29 : decode cX5_findBlocksAndWays 29 = .ok (.iinc 1 1, 3) := by decide +kernel
theorem dX5_findBlocksAndWays_32 : decode cX5_findBlocksAndWays 32 = .ok (.goto (-19), 3) := by decide +kernel
theorem dX5_findBlocksAndWays_35 : decode cX5_findBlocksAndWays 35 = .ok (.return_, 1) := by decide +kernel
theorem dX5_isStranded_0 : decode cX5_isStranded 0 = .ok (.aload_n 0, 1) := by decide +kernel
theorem dX5_isStranded_1 : decode cX5_isStranded 1 = .ok (.getfield 40, 3) := by decide +kernel
theorem dX5_isStranded_4 : decode cX5_isStranded 4 = .ok (.iload_n 1, 1) := by decide +kernel
theorem dX5_isStranded_5 : decode cX5_isStranded 5 = .ok (.invokevirtual 134, 3) := by decide +kernel
theorem dX5_isStranded_8 : decode cX5_isStranded 8 = .ok (.ifCond .eq 19, 3) := by decide +kernel
theorem dX5_isStranded_11 : decode cX5_isStranded 11 = .ok (.aload_n 0, 1) := by decide +kernel
theorem dX5_isStranded_12 : decode cX5_isStranded 12 = .ok (.getfield 56, 3) := by decide +kernel
theorem dX5_isStranded_15 : decode cX5_isStranded 15 = .ok (.iload_n 1, 1) := by decide +kernel
theorem dX5_isStranded_16 : decode cX5_isStranded 16 = .ok (.invokevirtual 95, 3) := by decide +kernel
theorem dX5_isStranded_19 : decode cX5_isStranded 19 = .ok (.iconst (-1), 1) := by decide +kernel
theorem dX5_isStranded_20 : decode cX5_isStranded 20 = .ok (.if_icmp .ne 7, 3) := by decide +kernel
theorem dX5_isStranded_23 : decode cX5_isStranded 23 = .ok (.iconst 1, 1) := by decide +kernel
theorem dX5_isStranded_24 : decode cX5_isStranded 24 = .ok (.goto 4, 3) := by decide +kernel
theorem dX5_isStranded_27 : decode cX5_isStranded 27 = .ok (.iconst 0, 1) := by decide +kernel
theorem dX5_isStranded_28 : decode cX5_isStranded 28 = .ok (.ireturn, 1) := by decide +kernel
theorem dX5_lowestFloating_0 : decode cX5_lowestFloating 0 = .ok (.iconst 0, 1) := by decide +kernel
theorem dX5_lowestFloating_1 : decode cX5_lowestFloating 1 = .ok (.istore_n 2, 1) := by decide +kernel
theorem dX5_lowestFloating_2 : decode cX5_lowestFloating 2 = .ok (.iload_n 2, 1) := by decide +kernel
theorem dX5_lowestFloating_3 : decode cX5_lowestFloating 3 = .ok (.aload_n 1, 1) := by decide +kernel
theorem dX5_lowestFloating_4 : decode cX5_lowestFloating 4 = .ok (.invokevirtual 212, 3) := by decide +kernel
theorem dX5_lowestFloating_7 : decode cX5_lowestFloating 7 = .ok (.if_icmp .ge 39, 3) := by decide +kernel
theorem dX5_lowestFloating_10 : decode cX5_lowestFloating 10 = .ok (.aload_n 0, 1) := by decide +kernel
theorem dX5_lowestFloating_11 : decode cX5_lowestFloating 11 = .ok (.getfield 40, 3) := by decide +kernel
theorem dX5_lowestFloating_14 : decode cX5_lowestFloating 14 = .ok (.iload_n 2, 1) := by decide +kernel
theorem dX5_lowestFloating_15 : decode cX5_lowestFloating 15 = .ok (.invokevirtual 134, 3) := by decide +kernel
theorem dX5_lowestFloating_18 : decode cX5_lowestFloating 18 = .ok (.ifCond .eq 22, 3) := by decide +kernel
theorem dX5_lowestFloating_21 : decode cX5_lowestFloating 21 = .ok (.aload_n 0, 1) := by decide +kernel
theorem dX5_lowestFloating_22 : decode cX5_lowestFloating 22 = .ok (.getfield 47, 3) := by decide +kernel
theorem dX5_lowestFloating_25 : decode cX5_lowestFloating 25 = .ok (.aload_n 1, 1) := by decide +kernel
theorem dX5_lowestFloating_26 : decode cX5_lowestFloating 26 = .ok (.aload_n 0, 1) := by decide +kernel
theorem dX5_lowestFloating_27 : decode cX5_lowestFloating 27 = .ok (.getfield 40, 3) := by decide +kernel
theorem dX5_lowestFloating_30 : decode cX5_lowestFloating 30 = .ok (.iload_n 2, 1) := by decide +kernel
theorem dX5_lowestFloating_31 : decode cX5_lowestFloating 31 = .ok (.invokevirtual 138, 3) := by decide +kernel
theorem dX5_lowestFloating_34 : decode cX5_lowestFloating 34 = .ok (.iconst (-1), 1) := by decide +kernel
theorem dX5_lowestFloating_35 : decode cX5_lowestFloating 35 = .ok (.if_icmp .eq 5, 3) := by decide +kernel
theorem dX5_lowestFloating_38 : decode cX5_lowestFloating 38 = .ok (.iload_n 2, 1) := by decide +kernel
theorem dX5_lowestFloating_39 : decode cX5_lowestFloating 39 = .ok (.ireturn, 1) := by decide +kernel
theorem dX5_lowestFloating_40 : decode cX5_lowestFloating 40 = .ok (.iinc 2 1, 3) := by decide +kernel
theorem dX5_lowestFloating_43 : decode cX5_lowestFloating 43 = .ok (.goto (-41), 3) := by decide +kernel
theorem dX5_lowestFloating_46 : decode cX5_lowestFloating 46 = .ok (.iconst (-1), 1) := by decide +kernel
theorem dX5_lowestFloating_47 : decode cX5_lowestFloating 47 = .ok (.ireturn, 1) := by decide +kernel
theorem dX5_removeFloating_0 : decode cX5_removeFloating 0 = .ok (.aload_n 0, 1) := by decide +kernel
theorem dX5_removeFloating_1 : decode cX5_removeFloating 1 = .ok (.getfield 40, 3) := by decide +kernel
theorem dX5_removeFloating_4 : decode cX5_removeFloating 4 = .ok (.aload_n 1, 1) := by decide +kernel
theorem dX5_removeFloating_5 : decode cX5_removeFloating 5 = .ok (.invokevirtual 127, 3) := by decide +kernel
theorem dX5_removeFloating_8 : decode cX5_removeFloating 8 = .ok (.iconst 0, 1) := by decide +kernel
theorem dX5_removeFloating_9 : decode cX5_removeFloating 9 = .ok (.istore_n 2, 1) := by decide +kernel
theorem dX5_removeFloating_10 : decode cX5_removeFloating 10 = .ok (.iload_n 2, 1) := by decide +kernel
theorem dX5_removeFloating_11 : decode cX5_removeFloating 11 = .ok (.bipush 49, 2) := by decide +kernel
theorem dX5_removeFloating_13 : decode cX5_removeFloating 13 = .ok (.if_icmp .ge 40, 3) := by decide +kernel
theorem dX5_removeFloating_16 : decode cX5_removeFloating 16 = .ok (.aload_n 0, 1) := by decide +kernel
theorem dX5_removeFloating_17 : decode cX5_removeFloating 17 = .ok (.aload_n 1, 1) := by decide +kernel
theorem dX5_removeFloating_18 : decode cX5_removeFloating 18 = .ok (.invokevirtual 303, 3) := by decide +kernel
theorem dX5_removeFloating_21 : decode cX5_removeFloating 21 = .ok (.istore_n 3, 1) := by decide +kernel
theorem dX5_removeFloating_22 : decode cX5_removeFloating 22 = .ok (.iload_n 3, 1) := by decide +kernel
theorem dX5_removeFloating_23 : decode cX5_removeFloating 23 = .ok (.iconst (-1), 1) := by decide +kernel
theorem dX5_removeFloating_24 : decode cX5_removeFloating 24 = .ok (.if_icmp .ne 5, 3) := by decide +kernel
theorem dX5_removeFloating_27 : decode cX5_removeFloating 27 = .ok (.iload_n 2, 1) := by decide +kernel
theorem dX5_removeFloating_28 : decode cX5_removeFloating 28 = .ok (.ireturn, 1) := by decide +kernel
theorem dX5_removeFloating_29 : decode cX5_removeFloating 29 = .ok (.aload_n 1, 1) := by decide +kernel
theorem dX5_removeFloating_30 : decode cX5_removeFloating 30 = .ok (.aload_n 0, 1) := by decide +kernel
theorem dX5_removeFloating_31 : decode cX5_removeFloating 31 = .ok (.getfield 40, 3) := by decide +kernel
theorem dX5_removeFloating_34 : decode cX5_removeFloating 34 = .ok (.iload_n 3, 1) := by decide +kernel
theorem dX5_removeFloating_35 : decode cX5_removeFloating 35 = .ok (.invokevirtual 144, 3) := by decide +kernel
theorem dX5_removeFloating_38 : decode cX5_removeFloating 38 = .ok (.pop, 1) := by decide +kernel
theorem dX5_removeFloating_39 : decode cX5_removeFloating 39 = .ok (.aload_n 0, 1) := by decide +kernel
theorem dX5_removeFloating_40 : decode cX5_removeFloating 40 = .ok (.getfield 40, 3) := by decide +kernel
theorem dX5_removeFloating_43 : decode cX5_removeFloating 43 = .ok (.iload_n 3, 1) := by decide +kernel
theorem dX5_removeFloating_44 : decode cX5_removeFloating 44 = .ok (.invokevirtual 306, 3) := by decide +kernel
theorem dX5_removeFloating_47 : decode cX5_removeFloating 47 = .ok (.iinc 2 1, 3) := by decide +kernel
theorem dX5_removeFloating_50 : decode cX5_removeFloating 50 = .ok (.goto (-40), 3) := by decide +kernel
theorem dX5_removeFloating_53 : decode cX5_removeFloating 53 = .ok (.bipush 49, 2) := by decide +kernel
theorem dX5_removeFloating_55 : decode cX5_removeFloating 55 = .ok (.ireturn, 1) := by decide +kernel
theorem dX5_hasWaterIn_0 : decode cX5_hasWaterIn 0 = .ok (.iconst 0, 1) := by decide +kernel
theorem dX5_hasWaterIn_1 : decode cX5_hasWaterIn 1 = .ok (.istore_n 3, 1) := by decide +kernel
theorem dX5_hasWaterIn_2 : decode cX5_hasWaterIn 2 = .ok (.iload_n 3, 1) := by decide +kernel
theorem dX5_hasWaterIn_3 : decode cX5_hasWaterIn 3 = .ok (.aload_n 1, 1) := by decide +kernel
theorem dX5_hasWaterIn_4 : decode cX5_hasWaterIn 4 = .ok (.invokevirtual 212, 3) := by decide +kernel
theorem dX5_hasWaterIn_7 : decode cX5_hasWaterIn 7 = .ok (.if_icmp .ge 31, 3) := by decide +kernel
theorem dX5_hasWaterIn_10 : decode cX5_hasWaterIn 10 = .ok (.aload_n 0, 1) := by decide +kernel
theorem dX5_hasWaterIn_11 : decode cX5_hasWaterIn 11 = .ok (.getfield 40, 3) := by decide +kernel
theorem dX5_hasWaterIn_14 : decode cX5_hasWaterIn 14 = .ok (.iload_n 3, 1) := by decide +kernel
theorem dX5_hasWaterIn_15 : decode cX5_hasWaterIn 15 = .ok (.invokevirtual 131, 3) := by decide +kernel
theorem dX5_hasWaterIn_18 : decode cX5_hasWaterIn 18 = .ok (.iload_n 2, 1) := by decide +kernel
theorem dX5_hasWaterIn_19 : decode cX5_hasWaterIn 19 = .ok (.if_icmp .ne 13, 3) := by decide +kernel
theorem dX5_hasWaterIn_22 : decode cX5_hasWaterIn 22 = .ok (.aload_n 1, 1) := by decide +kernel
theorem dX5_hasWaterIn_23 : decode cX5_hasWaterIn 23 = .ok (.iload_n 3, 1) := by decide +kernel
theorem dX5_hasWaterIn_24 : decode cX5_hasWaterIn 24 = .ok (.invokevirtual 215, 3) := by decide +kernel
theorem dX5_hasWaterIn_27 : decode cX5_hasWaterIn 27 = .ok (.ifCond .ne 5, 3) := by decide +kernel
theorem dX5_hasWaterIn_30 : decode cX5_hasWaterIn 30 = .ok (.iconst 1, 1) := by decide +kernel
theorem dX5_hasWaterIn_31 : decode cX5_hasWaterIn 31 = .ok (.ireturn, 1) := by decide +kernel
theorem dX5_hasWaterIn_32 : decode cX5_hasWaterIn 32 = .ok (.iinc 3 1, 3) := by decide +kernel
theorem dX5_hasWaterIn_35 : decode cX5_hasWaterIn 35 = .ok (.goto (-33), 3) := by decide +kernel
theorem dX5_hasWaterIn_38 : decode cX5_hasWaterIn 38 = .ok (.iconst 0, 1) := by decide +kernel
theorem dX5_hasWaterIn_39 : decode cX5_hasWaterIn 39 = .ok (.ireturn, 1) := by decide +kernel
theorem dL_cell_0 : decode cL_cell 0 = .ok (.iload_n 1, 1) := by decide +kernel
theorem dL_cell_1 : decode cL_cell 1 = .ok (.aload_n 0, 1) := by decide +kernel
theorem dL_cell_2 : decode cL_cell 2 = .ok (.arraylength, 1) := by decide +kernel
theorem dL_cell_3 : decode cL_cell 3 = .ok (.if_icmp .ge 9, 3) := by decide +kernel
theorem dL_cell_6 : decode cL_cell 6 = .ok (.aload_n 0, 1) := by decide +kernel
theorem dL_cell_7 : decode cL_cell 7 = .ok (.iload_n 1, 1) := by decide +kernel
theorem dL_cell_8 : decode cL_cell 8 = .ok (.iaload, 1) := by decide +kernel
theorem dL_cell_9 : decode cL_cell 9 = .ok (.goto 11, 3) := by decide +kernel
theorem dL_cell_12 : decode cL_cell 12 = .ok (.ldc 7, 2) := by decide +kernel
theorem dL_cell_14 : decode cL_cell 14 = .ok (.iload_n 1, 1) := by decide +kernel
theorem dL_cell_15 : decode cL_cell 15 = .ok (.sipush 619, 3) := by decide +kernel
theorem dL_cell_18 : decode cL_cell 18 = .ok (.iadd, 1) := by decide +kernel
theorem dL_cell_19 : decode cL_cell 19 = .ok (.imul, 1) := by decide +kernel
theorem dL_cell_20 : decode cL_cell 20 = .ok (.ireturn, 1) := by decide +kernel
theorem dL_up_0 : decode cL_up 0 = .ok (.iload_n 0, 1) := by decide +kernel
theorem dL_up_1 : decode cL_up 1 = .ok (.ldc 8, 2) := by decide +kernel
theorem dL_up_3 : decode cL_up 3 = .ok (.iand, 1) := by decide +kernel
theorem dL_up_4 : decode cL_up 4 = .ok (.iload_n 1, 1) := by decide +kernel
theorem dL_up_5 : decode cL_up 5 = .ok (.irem, 1) := by decide +kernel
theorem dL_up_6 : decode cL_up 6 = .ok (.ireturn, 1) := by decide +kernel
theorem dL_turned_0 : decode cL_turned 0 = .ok (.iload_n 0, 1) := by decide +kernel
theorem dL_turned_1 : decode cL_turned 1 = .ok (.iload_n 0, 1) := by decide +kernel
theorem dL_turned_2 : decode cL_turned 2 = .ok (.iload_n 1, 1) := by decide +kernel
theorem dL_turned_3 : decode cL_turned 3 = .ok (.irem, 1) := by decide +kernel
theorem dL_turned_4 : decode cL_turned 4 = .ok (.isub, 1) := by decide +kernel
theorem dL_turned_5 : decode cL_turned 5 = .ok (.iload_n 1, 1) := by decide +kernel
theorem dL_turned_6 : decode cL_turned 6 = .ok (.iadd, 1) := by decide +kernel
theorem dL_turned_7 : decode cL_turned 7 = .ok (.iconst 1, 1) := by decide +kernel
theorem dL_turned_8 : decode cL_turned 8 = .ok (.isub, 1) := by decide +kernel
theorem dL_turned_9 : decode cL_turned 9 = .ok (.iload_n 0, 1) := by decide +kernel
theorem dL_turned_10 : decode cL_turned 10 = .ok (.iload_n 1, 1) := by decide +kernel
theorem dL_turned_11 : decode cL_turned 11 = .ok (.irem, 1) := by decide +kernel
theorem dL_turned_12 : decode cL_turned 12 = .ok (.isub, 1) := by decide +kernel
theorem dL_turned_13 : decode cL_turned 13 = .ok (.ireturn, 1) := by decide +kernel
theorem dL_isStep_0 : decode cL_isStep 0 = .ok (.iload_n 2, 1) := by decide +kernel
theorem dL_isStep_1 : decode cL_isStep 1 = .ok (.iconst 4, 1) := by decide +kernel
theorem dL_isStep_2 : decode cL_isStep 2 = .ok (.ishr, 1) := by decide +kernel
theorem dL_isStep_3 : decode cL_isStep 3 = .ok (.istore_n 3, 1) := by decide +kernel
theorem dL_isStep_4 : decode cL_isStep 4 = .ok (.aload_n 0, 1) := by decide +kernel
theorem dL_isStep_5 : decode cL_isStep 5 = .ok (.iconst 0, 1) := by decide +kernel
theorem dL_isStep_6 : decode cL_isStep 6 = .ok (.invokevirtual 9, 3) := by decide +kernel
theorem dL_isStep_9 : decode cL_isStep 9 = .ok (.istore 4, 2) := by decide +kernel
theorem dL_isStep_11 : decode cL_isStep 11 = .ok (.aload_n 0, 1) := by decide +kernel
theorem dL_isStep_12 : decode cL_isStep 12 = .ok (.iconst 1, 1) := by decide +kernel
theorem dL_isStep_13 : decode cL_isStep 13 = .ok (.invokevirtual 9, 3) := by decide +kernel
theorem dL_isStep_16 : decode cL_isStep 16 = .ok (.istore 5, 2) := by decide +kernel
theorem dL_isStep_18 : decode cL_isStep 18 = .ok (.iload_n 3, 1) := by decide +kernel
theorem dL_isStep_19 : decode cL_isStep 19 = .ok (.iload 4, 2) := by decide +kernel
theorem dL_isStep_21 : decode cL_isStep 21 = .ok (.iload 5, 2) := by decide +kernel
theorem dL_isStep_23 : decode cL_isStep 23 = .ok (.imul, 1) := by decide +kernel
theorem dL_isStep_24 : decode cL_isStep 24 = .ok (.invokestatic 15, 3) := by decide +kernel
theorem dL_isStep_27 : decode cL_isStep 27 = .ok (.istore 6, 2) := by decide +kernel
theorem dL_isStep_29 : decode cL_isStep 29 = .ok (.iload 6, 2) := by decide +kernel
theorem dL_isStep_31 : decode cL_isStep 31 = .ok (.iload 4, 2) := by decide +kernel
theorem dL_isStep_33 : decode cL_isStep 33 = .ok (.invokestatic 21, 3) := by decide +kernel
theorem dL_isStep_36 : decode cL_isStep 36 = .ok (.istore 7, 2) := by decide +kernel
theorem dL_isStep_38 : decode cL_isStep 38 = .ok (.iload_n 2, 1) := by decide +kernel
theorem dL_isStep_39 : decode cL_isStep 39 = .ok (.bipush 12, 2) := by decide +kernel
theorem dL_isStep_41 : decode cL_isStep 41 = .ok (.invokestatic 15, 3) := by decide +kernel
theorem dL_isStep_44 : decode cL_isStep 44 = .ok (.tableswitch 505 0 10 #[60, 60, 60, 189, 189, 189, 293, 346, 373, 404, 429], 60) := by decide +kernel
theorem dL_isStep_104 : decode cL_isStep 104 = .ok (.iload_n 3, 1) := by decide +kernel
theorem dL_isStep_105 : decode cL_isStep 105 = .ok (.bipush 7, 2) := by decide +kernel
theorem dL_isStep_107 : decode cL_isStep 107 = .ok (.ishr, 1) := by decide +kernel
theorem dL_isStep_108 : decode cL_isStep 108 = .ok (.iconst 3, 1) := by decide +kernel
theorem dL_isStep_109 : decode cL_isStep 109 = .ok (.iand, 1) := by decide +kernel
theorem dL_isStep_110 : decode cL_isStep 110 = .ok (.istore 8, 2) := by decide +kernel
theorem dL_isStep_112 : decode cL_isStep 112 = .ok (.iload 8, 2) := by decide +kernel
theorem dL_isStep_114 : decode cL_isStep 114 = .ok (.ifCond .ne 23, 3) := by decide +kernel
theorem dL_isStep_117 : decode cL_isStep 117 = .ok (.iload 6, 2) := by decide +kernel
theorem dL_isStep_119 : decode cL_isStep 119 = .ok (.iload 4, 2) := by decide +kernel
theorem dL_isStep_121 : decode cL_isStep 121 = .ok (.irem, 1) := by decide +kernel
theorem dL_isStep_122 : decode cL_isStep 122 = .ok (.iload 4, 2) := by decide +kernel
theorem dL_isStep_124 : decode cL_isStep 124 = .ok (.iconst 1, 1) := by decide +kernel
theorem dL_isStep_125 : decode cL_isStep 125 = .ok (.isub, 1) := by decide +kernel
theorem dL_isStep_126 : decode cL_isStep 126 = .ok (.if_icmp .ge 7, 3) := by decide +kernel
theorem dL_isStep_129 : decode cL_isStep 129 = .ok (.iconst 1, 1) := by decide +kernel
theorem dL_isStep_130 : decode cL_isStep 130 = .ok (.goto 52, 3) := by decide +kernel
theorem dL_isStep_133 : decode cL_isStep 133 = .ok (.iconst 0, 1) := by decide +kernel
theorem dL_isStep_134 : decode cL_isStep 134 = .ok (.goto 48, 3) := by decide +kernel
theorem dL_isStep_137 : decode cL_isStep 137 = .ok (.iload 8, 2) := by decide +kernel
theorem dL_isStep_139 : decode cL_isStep 139 = .ok (.iconst 1, 1) := by decide +kernel
theorem dL_isStep_140 : decode cL_isStep 140 = .ok (.if_icmp .ne 23, 3) := by decide +kernel
theorem dL_isStep_143 : decode cL_isStep 143 = .ok (.iload 6, 2) := by decide +kernel
theorem dL_isStep_145 : decode cL_isStep 145 = .ok (.iload 4, 2) := by decide +kernel
theorem dL_isStep_147 : decode cL_isStep 147 = .ok (.idiv, 1) := by decide +kernel
theorem dL_isStep_148 : decode cL_isStep 148 = .ok (.iload 5, 2) := by decide +kernel
theorem dL_isStep_150 : decode cL_isStep 150 = .ok (.iconst 1, 1) := by decide +kernel
theorem dL_isStep_151 : decode cL_isStep 151 = .ok (.isub, 1) := by decide +kernel
theorem dL_isStep_152 : decode cL_isStep 152 = .ok (.if_icmp .ge 7, 3) := by decide +kernel
theorem dL_isStep_155 : decode cL_isStep 155 = .ok (.iconst 1, 1) := by decide +kernel
theorem dL_isStep_156 : decode cL_isStep 156 = .ok (.goto 26, 3) := by decide +kernel
theorem dL_isStep_159 : decode cL_isStep 159 = .ok (.iconst 0, 1) := by decide +kernel
theorem dL_isStep_160 : decode cL_isStep 160 = .ok (.goto 22, 3) := by decide +kernel
theorem dL_isStep_163 : decode cL_isStep 163 = .ok (.iload 8, 2) := by decide +kernel
theorem dL_isStep_165 : decode cL_isStep 165 = .ok (.iconst 2, 1) := by decide +kernel
theorem dL_isStep_166 : decode cL_isStep 166 = .ok (.if_icmp .eq 11, 3) := by decide +kernel
theorem dL_isStep_169 : decode cL_isStep 169 = .ok (.iload 6, 2) := by decide +kernel
theorem dL_isStep_171 : decode cL_isStep 171 = .ok (.iload 4, 2) := by decide +kernel
theorem dL_isStep_173 : decode cL_isStep 173 = .ok (.irem, 1) := by decide +kernel
theorem dL_isStep_174 : decode cL_isStep 174 = .ok (.ifCond .le 7, 3) := by decide +kernel
theorem dL_isStep_177 : decode cL_isStep 177 = .ok (.iconst 1, 1) := by decide +kernel
theorem dL_isStep_178 : decode cL_isStep 178 = .ok (.goto 4, 3) := by decide +kernel
theorem dL_isStep_181 : decode cL_isStep 181 = .ok (.iconst 0, 1) := by decide +kernel
theorem dL_isStep_182 : decode cL_isStep 182 = .ok (.istore 9, 2) := by decide +kernel
theorem dL_isStep_184 : decode cL_isStep 184 = .ok (.iload 9, 2) := by decide +kernel
theorem dL_isStep_186 : decode cL_isStep 186 = .ok (.ifCond .eq 41, 3) := by decide +kernel
theorem dL_isStep_189 : decode cL_isStep 189 = .ok (.aload_n 0, 1) := by decide +kernel
theorem dL_isStep_190 : decode cL_isStep 190 = .ok (.iload 6, 2) := by decide +kernel
theorem dL_isStep_192 : decode cL_isStep 192 = .ok (.iload 8, 2) := by decide +kernel
theorem dL_isStep_194 : decode cL_isStep 194 = .ok (.invokevirtual 24, 3) := by decide +kernel
theorem dL_isStep_197 : decode cL_isStep 197 = .ok (.aload_n 1, 1) := by decide +kernel
theorem dL_isStep_198 : decode cL_isStep 198 = .ok (.iload 7, 2) := by decide +kernel
theorem dL_isStep_200 : decode cL_isStep 200 = .ok (.iload 8, 2) := by decide +kernel
theorem dL_isStep_202 : decode cL_isStep 202 = .ok (.ifCond .ne 7, 3) := by decide +kernel
theorem dL_isStep_205 : decode cL_isStep 205 = .ok (.iconst 3, 1) := by decide +kernel
theorem dL_isStep_206 : decode cL_isStep 206 = .ok (.goto 15, 3) := by decide +kernel
theorem dL_isStep_209 : decode cL_isStep 209 = .ok (.iload 8, 2) := by decide +kernel
theorem dL_isStep_211 : decode cL_isStep 211 = .ok (.iconst 3, 1) := by decide +kernel
theorem dL_isStep_212 : decode cL_isStep 212 = .ok (.if_icmp .ne 7, 3) := by decide +kernel
theorem dL_isStep_215 : decode cL_isStep 215 = .ok (.iconst 0, 1) := by decide +kernel
theorem dL_isStep_216 : decode cL_isStep 216 = .ok (.goto 5, 3) := by decide +kernel
theorem dL_isStep_219 : decode cL_isStep 219 = .ok (.iload 8, 2) := by decide +kernel
theorem dL_isStep_221 : decode cL_isStep 221 = .ok (.invokevirtual 24, 3) := by decide +kernel
theorem dL_isStep_224 : decode cL_isStep 224 = .ok (.if_icmp .ne 7, 3) := by decide +kernel
theorem dL_isStep_227 : decode cL_isStep 227 = .ok (.iconst 1, 1) := by decide +kernel
theorem dL_isStep_228 : decode cL_isStep 228 = .ok (.goto 4, 3) := by decide +kernel
theorem dL_isStep_231 : decode cL_isStep 231 = .ok (.iconst 0, 1) := by decide +kernel
theorem dL_isStep_232 : decode cL_isStep 232 = .ok (.ireturn, 1) := by decide +kernel
theorem dL_isStep_233 : decode cL_isStep 233 = .ok (.iconst 1, 1) := by decide +kernel
theorem dL_isStep_234 : decode cL_isStep 234 = .ok (.iload_n 3, 1) := by decide +kernel
theorem dL_isStep_235 : decode cL_isStep 235 = .ok (.bipush 7, 2) := by decide +kernel
theorem dL_isStep_237 : decode cL_isStep 237 = .ok (.ishr, 1) := by decide +kernel
theorem dL_isStep_238 : decode cL_isStep 238 = .ok (.iload 4, 2) := by decide +kernel
theorem dL_isStep_240 : decode cL_isStep 240 = .ok (.iload 6, 2) := by decide +kernel
theorem dL_isStep_242 : decode cL_isStep 242 = .ok (.iload 4, 2) := by decide +kernel
theorem dL_isStep_244 : decode cL_isStep 244 = .ok (.irem, 1) := by decide +kernel
theorem dL_isStep_245 : decode cL_isStep 245 = .ok (.isub, 1) := by decide +kernel
theorem dL_isStep_246 : decode cL_isStep 246 = .ok (.invokestatic 15, 3) := by decide +kernel
theorem dL_isStep_249 : decode cL_isStep 249 = .ok (.iadd, 1) := by decide +kernel
theorem dL_isStep_250 : decode cL_isStep 250 = .ok (.istore 8, 2) := by decide +kernel
theorem dL_isStep_252 : decode cL_isStep 252 = .ok (.iconst 1, 1) := by decide +kernel
theorem dL_isStep_253 : decode cL_isStep 253 = .ok (.iload_n 3, 1) := by decide +kernel
theorem dL_isStep_254 : decode cL_isStep 254 = .ok (.bipush 10, 2) := by decide +kernel
theorem dL_isStep_256 : decode cL_isStep 256 = .ok (.ishr, 1) := by decide +kernel
theorem dL_isStep_257 : decode cL_isStep 257 = .ok (.iload 5, 2) := by decide +kernel
theorem dL_isStep_259 : decode cL_isStep 259 = .ok (.iload 6, 2) := by decide +kernel
theorem dL_isStep_261 : decode cL_isStep 261 = .ok (.iload 4, 2) := by decide +kernel
theorem dL_isStep_263 : decode cL_isStep 263 = .ok (.idiv, 1) := by decide +kernel
theorem dL_isStep_264 : decode cL_isStep 264 = .ok (.isub, 1) := by decide +kernel
theorem dL_isStep_265 : decode cL_isStep 265 = .ok (.invokestatic 15, 3) := by decide +kernel
theorem dL_isStep_268 : decode cL_isStep 268 = .ok (.iadd, 1) := by decide +kernel
theorem dL_isStep_269 : decode cL_isStep 269 = .ok (.istore 9, 2) := by decide +kernel
theorem dL_isStep_271 : decode cL_isStep 271 = .ok (.iload 6, 2) := by decide +kernel
theorem dL_isStep_273 : decode cL_isStep 273 = .ok (.iload 8, 2) := by decide +kernel
theorem dL_isStep_275 : decode cL_isStep 275 = .ok (.iadd, 1) := by decide +kernel
theorem dL_isStep_276 : decode cL_isStep 276 = .ok (.iconst 1, 1) := by decide +kernel
theorem dL_isStep_277 : decode cL_isStep 277 = .ok (.isub, 1) := by decide +kernel
theorem dL_isStep_278 : decode cL_isStep 278 = .ok (.iload 4, 2) := by decide +kernel
theorem dL_isStep_280 : decode cL_isStep 280 = .ok (.invokestatic 21, 3) := by decide +kernel
theorem dL_isStep_283 : decode cL_isStep 283 = .ok (.istore 10, 2) := by decide +kernel
theorem dL_isStep_285 : decode cL_isStep 285 = .ok (.aload_n 0, 1) := by decide +kernel
theorem dL_isStep_286 : decode cL_isStep 286 = .ok (.iload 6, 2) := by decide +kernel
theorem dL_isStep_288 : decode cL_isStep 288 = .ok (.iload 8, 2) := by decide +kernel
theorem dL_isStep_290 : decode cL_isStep 290 = .ok (.iload 9, 2) := by decide +kernel
theorem dL_isStep_292 : decode cL_isStep 292 = .ok (.invokevirtual 27, 3) := by decide +kernel
theorem dL_isStep_295 : decode cL_isStep 295 = .ok (.aload_n 1, 1) := by decide +kernel
theorem dL_isStep_296 : decode cL_isStep 296 = .ok (.iload 10, 2) := by decide +kernel
theorem dL_isStep_298 : decode cL_isStep 298 = .ok (.iload 8, 2) := by decide +kernel
theorem dL_isStep_300 : decode cL_isStep 300 = .ok (.iload 9, 2) := by decide +kernel
theorem dL_isStep_302 : decode cL_isStep 302 = .ok (.invokevirtual 27, 3) := by decide +kernel
theorem dL_isStep_305 : decode cL_isStep 305 = .ok (.if_icmp .ne 30, 3) := by decide +kernel
theorem dL_isStep_308 : decode cL_isStep 308 = .ok (.aload_n 0, 1) := by decide +kernel
theorem dL_isStep_309 : decode cL_isStep 309 = .ok (.iload 6, 2) := by decide +kernel
theorem dL_isStep_311 : decode cL_isStep 311 = .ok (.iload 8, 2) := by decide +kernel
theorem dL_isStep_313 : decode cL_isStep 313 = .ok (.iload 9, 2) := by decide +kernel
theorem dL_isStep_315 : decode cL_isStep 315 = .ok (.invokevirtual 31, 3) := by decide +kernel
theorem dL_isStep_318 : decode cL_isStep 318 = .ok (.aload_n 1, 1) := by decide +kernel
theorem dL_isStep_319 : decode cL_isStep 319 = .ok (.iload 10, 2) := by decide +kernel
theorem dL_isStep_321 : decode cL_isStep 321 = .ok (.iload 8, 2) := by decide +kernel
theorem dL_isStep_323 : decode cL_isStep 323 = .ok (.iload 9, 2) := by decide +kernel
theorem dL_isStep_325 : decode cL_isStep 325 = .ok (.invokevirtual 31, 3) := by decide +kernel
theorem dL_isStep_328 : decode cL_isStep 328 = .ok (.if_icmp .ne 7, 3) := by decide +kernel
theorem dL_isStep_331 : decode cL_isStep 331 = .ok (.iconst 1, 1) := by decide +kernel
theorem dL_isStep_332 : decode cL_isStep 332 = .ok (.goto 4, 3) := by decide +kernel
theorem dL_isStep_335 : decode cL_isStep 335 = .ok (.iconst 0, 1) := by decide +kernel
theorem dL_isStep_336 : decode cL_isStep 336 = .ok (.ireturn, 1) := by decide +kernel
theorem dL_isStep_337 : decode cL_isStep 337 = .ok (.iconst 1, 1) := by decide +kernel
theorem dL_isStep_338 : decode cL_isStep 338 = .ok (.iload_n 3, 1) := by decide +kernel
theorem dL_isStep_339 : decode cL_isStep 339 = .ok (.bipush 7, 2) := by decide +kernel
theorem dL_isStep_341 : decode cL_isStep 341 = .ok (.ishr, 1) := by decide +kernel
theorem dL_isStep_342 : decode cL_isStep 342 = .ok (.bipush 9, 2) := by decide +kernel
theorem dL_isStep_344 : decode cL_isStep 344 = .ok (.invokestatic 15, 3) := by decide +kernel
theorem dL_isStep_347 : decode cL_isStep 347 = .ok (.iadd, 1) := by decide +kernel
theorem dL_isStep_348 : decode cL_isStep 348 = .ok (.istore 8, 2) := by decide +kernel
theorem dL_isStep_350 : decode cL_isStep 350 = .ok (.aload_n 0, 1) := by decide +kernel
theorem dL_isStep_351 : decode cL_isStep 351 = .ok (.iload 6, 2) := by decide +kernel
theorem dL_isStep_353 : decode cL_isStep 353 = .ok (.iconst 0, 1) := by decide +kernel
theorem dL_isStep_354 : decode cL_isStep 354 = .ok (.invokevirtual 34, 3) := by decide +kernel
theorem dL_isStep_357 : decode cL_isStep 357 = .ok (.iload 8, 2) := by decide +kernel
theorem dL_isStep_359 : decode cL_isStep 359 = .ok (.iadd, 1) := by decide +kernel
theorem dL_isStep_360 : decode cL_isStep 360 = .ok (.bipush 50, 2) := by decide +kernel
theorem dL_isStep_362 : decode cL_isStep 362 = .ok (.if_icmp .gt 22, 3) := by decide +kernel
theorem dL_isStep_365 : decode cL_isStep 365 = .ok (.aload_n 0, 1) := by decide +kernel
theorem dL_isStep_366 : decode cL_isStep 366 = .ok (.iload 6, 2) := by decide +kernel
theorem dL_isStep_368 : decode cL_isStep 368 = .ok (.iload 8, 2) := by decide +kernel
theorem dL_isStep_370 : decode cL_isStep 370 = .ok (.invokevirtual 37, 3) := by decide +kernel
theorem dL_isStep_373 : decode cL_isStep 373 = .ok (.aload_n 1, 1) := by decide +kernel
theorem dL_isStep_374 : decode cL_isStep 374 = .ok (.iload 7, 2) := by decide +kernel
theorem dL_isStep_376 : decode cL_isStep 376 = .ok (.iload 8, 2) := by decide +kernel
theorem dL_isStep_378 : decode cL_isStep 378 = .ok (.invokevirtual 37, 3) := by decide +kernel
theorem dL_isStep_381 : decode cL_isStep 381 = .ok (.if_icmp .ne 7, 3) := by decide +kernel
theorem dL_isStep_384 : decode cL_isStep 384 = .ok (.iconst 1, 1) := by decide +kernel
theorem dL_isStep_385 : decode cL_isStep 385 = .ok (.goto 4, 3) := by decide +kernel
theorem dL_isStep_388 : decode cL_isStep 388 = .ok (.iconst 0, 1) := by decide +kernel
theorem dL_isStep_389 : decode cL_isStep 389 = .ok (.ireturn, 1) := by decide +kernel
theorem dL_isStep_390 : decode cL_isStep 390 = .ok (.aload_n 0, 1) := by decide +kernel
theorem dL_isStep_391 : decode cL_isStep 391 = .ok (.iload_n 3, 1) := by decide +kernel
theorem dL_isStep_392 : decode cL_isStep 392 = .ok (.iconst 5, 1) := by decide +kernel
theorem dL_isStep_393 : decode cL_isStep 393 = .ok (.invokestatic 15, 3) := by decide +kernel
theorem dL_isStep_396 : decode cL_isStep 396 = .ok (.invokevirtual 40, 3) := by decide +kernel
theorem dL_isStep_399 : decode cL_isStep 399 = .ok (.aload_n 1, 1) := by decide +kernel
theorem dL_isStep_400 : decode cL_isStep 400 = .ok (.iload_n 3, 1) := by decide +kernel
theorem dL_isStep_401 : decode cL_isStep 401 = .ok (.iconst 5, 1) := by decide +kernel
theorem dL_isStep_402 : decode cL_isStep 402 = .ok (.invokestatic 15, 3) := by decide +kernel
theorem dL_isStep_405 : decode cL_isStep 405 = .ok (.invokevirtual 40, 3) := by decide +kernel
theorem dL_isStep_408 : decode cL_isStep 408 = .ok (.if_icmp .ne 7, 3) := by decide +kernel
theorem dL_isStep_411 : decode cL_isStep 411 = .ok (.iconst 1, 1) := by decide +kernel
theorem dL_isStep_412 : decode cL_isStep 412 = .ok (.goto 4, 3) := by decide +kernel
theorem dL_isStep_415 : decode cL_isStep 415 = .ok (.iconst 0, 1) := by decide +kernel
theorem dL_isStep_416 : decode cL_isStep 416 = .ok (.ireturn, 1) := by decide +kernel
theorem dL_isStep_417 : decode cL_isStep 417 = .ok (.aload_n 0, 1) := by decide +kernel
theorem dL_isStep_418 : decode cL_isStep 418 = .ok (.iconst 1, 1) := by decide +kernel
theorem dL_isStep_419 : decode cL_isStep 419 = .ok (.iload_n 3, 1) := by decide +kernel
theorem dL_isStep_420 : decode cL_isStep 420 = .ok (.iconst 5, 1) := by decide +kernel
theorem dL_isStep_421 : decode cL_isStep 421 = .ok (.invokestatic 15, 3) := by decide +kernel
theorem dL_isStep_424 : decode cL_isStep 424 = .ok (.iadd, 1) := by decide +kernel
theorem dL_isStep_425 : decode cL_isStep 425 = .ok (.invokevirtual 43, 3) := by decide +kernel
theorem dL_isStep_428 : decode cL_isStep 428 = .ok (.aload_n 1, 1) := by decide +kernel
theorem dL_isStep_429 : decode cL_isStep 429 = .ok (.iconst 1, 1) := by decide +kernel
theorem dL_isStep_430 : decode cL_isStep 430 = .ok (.iload_n 3, 1) := by decide +kernel
theorem dL_isStep_431 : decode cL_isStep 431 = .ok (.iconst 5, 1) := by decide +kernel
theorem dL_isStep_432 : decode cL_isStep 432 = .ok (.invokestatic 15, 3) := by decide +kernel
theorem dL_isStep_435 : decode cL_isStep 435 = .ok (.iadd, 1) := by decide +kernel
theorem dL_isStep_436 : decode cL_isStep 436 = .ok (.invokevirtual 43, 3) := by decide +kernel
theorem dL_isStep_439 : decode cL_isStep 439 = .ok (.if_icmp .ne 7, 3) := by decide +kernel
theorem dL_isStep_442 : decode cL_isStep 442 = .ok (.iconst 1, 1) := by decide +kernel
theorem dL_isStep_443 : decode cL_isStep 443 = .ok (.goto 4, 3) := by decide +kernel
theorem dL_isStep_446 : decode cL_isStep 446 = .ok (.iconst 0, 1) := by decide +kernel
theorem dL_isStep_447 : decode cL_isStep 447 = .ok (.ireturn, 1) := by decide +kernel
theorem dL_isStep_448 : decode cL_isStep 448 = .ok (.iload_n 3, 1) := by decide +kernel
theorem dL_isStep_449 : decode cL_isStep 449 = .ok (.iconst 3, 1) := by decide +kernel
theorem dL_isStep_450 : decode cL_isStep 450 = .ok (.invokestatic 15, 3) := by decide +kernel
theorem dL_isStep_453 : decode cL_isStep 453 = .ok (.ifCond .gt 14, 3) := by decide +kernel
theorem dL_isStep_456 : decode cL_isStep 456 = .ok (.aload_n 0, 1) := by decide +kernel
theorem dL_isStep_457 : decode cL_isStep 457 = .ok (.invokevirtual 46, 3) := by decide +kernel
theorem dL_isStep_460 : decode cL_isStep 460 = .ok (.aload_n 1, 1) := by decide +kernel
theorem dL_isStep_461 : decode cL_isStep 461 = .ok (.invokevirtual 46, 3) := by decide +kernel
theorem dL_isStep_464 : decode cL_isStep 464 = .ok (.if_icmp .ne 7, 3) := by decide +kernel
theorem dL_isStep_467 : decode cL_isStep 467 = .ok (.iconst 1, 1) := by decide +kernel
theorem dL_isStep_468 : decode cL_isStep 468 = .ok (.goto 4, 3) := by decide +kernel
theorem dL_isStep_471 : decode cL_isStep 471 = .ok (.iconst 0, 1) := by decide +kernel
theorem dL_isStep_472 : decode cL_isStep 472 = .ok (.ireturn, 1) := by decide +kernel
theorem dL_isStep_473 : decode cL_isStep 473 = .ok (.iconst 2, 1) := by decide +kernel
theorem dL_isStep_474 : decode cL_isStep 474 = .ok (.iload_n 3, 1) := by decide +kernel
theorem dL_isStep_475 : decode cL_isStep 475 = .ok (.bipush 6, 2) := by decide +kernel
theorem dL_isStep_477 : decode cL_isStep 477 = .ok (.invokestatic 15, 3) := by decide +kernel
theorem dL_isStep_480 : decode cL_isStep 480 = .ok (.iadd, 1) := by decide +kernel
theorem dL_isStep_481 : decode cL_isStep 481 = .ok (.istore 8, 2) := by decide +kernel
theorem dL_isStep_483 : decode cL_isStep 483 = .ok (.iconst 2, 1) := by decide +kernel
theorem dL_isStep_484 : decode cL_isStep 484 = .ok (.iload_n 3, 1) := by decide +kernel
theorem dL_isStep_485 : decode cL_isStep 485 = .ok (.iconst 3, 1) := by decide +kernel
theorem dL_isStep_486 : decode cL_isStep 486 = .ok (.ishr, 1) := by decide +kernel
theorem dL_isStep_487 : decode cL_isStep 487 = .ok (.bipush 6, 2) := by decide +kernel
theorem dL_isStep_489 : decode cL_isStep 489 = .ok (.invokestatic 15, 3) := by decide +kernel
theorem dL_isStep_492 : decode cL_isStep 492 = .ok (.iadd, 1) := by decide +kernel
theorem dL_isStep_493 : decode cL_isStep 493 = .ok (.istore 9, 2) := by decide +kernel
theorem dL_isStep_495 : decode cL_isStep 495 = .ok (.iload_n 3, 1) := by decide +kernel
theorem dL_isStep_496 : decode cL_isStep 496 = .ok (.bipush 6, 2) := by decide +kernel
theorem dL_isStep_498 : decode cL_isStep 498 = .ok (.ishr, 1) := by decide +kernel
theorem dL_isStep_499 : decode cL_isStep 499 = .ok (.iconst 5, 1) := by decide +kernel
theorem dL_isStep_500 : decode cL_isStep 500 = .ok (.invokestatic 15, 3) := by decide +kernel
theorem dL_isStep_503 : decode cL_isStep 503 = .ok (.ifCond .gt 40, 3) := by decide +kernel
theorem dL_isStep_506 : decode cL_isStep 506 = .ok (.aload_n 0, 1) := by decide +kernel
theorem dL_isStep_507 : decode cL_isStep 507 = .ok (.iload 8, 2) := by decide +kernel
theorem dL_isStep_509 : decode cL_isStep 509 = .ok (.iload 9, 2) := by decide +kernel
theorem dL_isStep_511 : decode cL_isStep 511 = .ok (.iload_n 3, 1) := by decide +kernel
theorem dL_isStep_512 : decode cL_isStep 512 = .ok (.bipush 9, 2) := by decide +kernel
theorem dL_isStep_514 : decode cL_isStep 514 = .ok (.ishr, 1) := by decide +kernel
theorem dL_isStep_515 : decode cL_isStep 515 = .ok (.bipush 12, 2) := by decide +kernel
theorem dL_isStep_517 : decode cL_isStep 517 = .ok (.invokestatic 15, 3) := by decide +kernel
theorem dL_isStep_520 : decode cL_isStep 520 = .ok (.invokevirtual 50, 3) := by decide +kernel
theorem dL_isStep_523 : decode cL_isStep 523 = .ok (.aload_n 1, 1) := by decide +kernel
theorem dL_isStep_524 : decode cL_isStep 524 = .ok (.iload 8, 2) := by decide +kernel
theorem dL_isStep_526 : decode cL_isStep 526 = .ok (.iload 9, 2) := by decide +kernel
theorem dL_isStep_528 : decode cL_isStep 528 = .ok (.iload_n 3, 1) := by decide +kernel
theorem dL_isStep_529 : decode cL_isStep 529 = .ok (.bipush 9, 2) := by decide +kernel
theorem dL_isStep_531 : decode cL_isStep 531 = .ok (.ishr, 1) := by decide +kernel
theorem dL_isStep_532 : decode cL_isStep 532 = .ok (.bipush 12, 2) := by decide +kernel
theorem dL_isStep_534 : decode cL_isStep 534 = .ok (.invokestatic 15, 3) := by decide +kernel
theorem dL_isStep_537 : decode cL_isStep 537 = .ok (.invokevirtual 50, 3) := by decide +kernel
theorem dL_isStep_540 : decode cL_isStep 540 = .ok (.if_icmp .ne 7, 3) := by decide +kernel
theorem dL_isStep_543 : decode cL_isStep 543 = .ok (.iconst 1, 1) := by decide +kernel
theorem dL_isStep_544 : decode cL_isStep 544 = .ok (.goto 4, 3) := by decide +kernel
theorem dL_isStep_547 : decode cL_isStep 547 = .ok (.iconst 0, 1) := by decide +kernel
theorem dL_isStep_548 : decode cL_isStep 548 = .ok (.ireturn, 1) := by decide +kernel
theorem dL_isStep_549 : decode cL_isStep 549 = .ok (.aload_n 0, 1) := by decide +kernel
theorem dL_isStep_550 : decode cL_isStep 550 = .ok (.iload 6, 2) := by decide +kernel
theorem dL_isStep_552 : decode cL_isStep 552 = .ok (.iconst 4, 1) := by decide +kernel
theorem dL_isStep_553 : decode cL_isStep 553 = .ok (.invokevirtual 53, 3) := by decide +kernel
theorem dL_isStep_556 : decode cL_isStep 556 = .ok (.ifCond .ge 21, 3) := by decide +kernel
theorem dL_isStep_559 : decode cL_isStep 559 = .ok (.aload_n 1, 1) := by decide +kernel
theorem dL_isStep_560 : decode cL_isStep 560 = .ok (.iload 7, 2) := by decide +kernel
theorem dL_isStep_562 : decode cL_isStep 562 = .ok (.iconst 4, 1) := by decide +kernel
theorem dL_isStep_563 : decode cL_isStep 563 = .ok (.invokevirtual 53, 3) := by decide +kernel
theorem dL_isStep_566 : decode cL_isStep 566 = .ok (.ifCond .ge 7, 3) := by decide +kernel
theorem dL_isStep_569 : decode cL_isStep 569 = .ok (.iconst 1, 1) := by decide +kernel
theorem dL_isStep_570 : decode cL_isStep 570 = .ok (.goto 27, 3) := by decide +kernel
theorem dL_isStep_573 : decode cL_isStep 573 = .ok (.iconst 0, 1) := by decide +kernel
theorem dL_isStep_574 : decode cL_isStep 574 = .ok (.goto 23, 3) := by decide +kernel
theorem dL_isStep_577 : decode cL_isStep 577 = .ok (.aload_n 0, 1) := by decide +kernel
theorem dL_isStep_578 : decode cL_isStep 578 = .ok (.iload 6, 2) := by decide +kernel
theorem dL_isStep_580 : decode cL_isStep 580 = .ok (.invokevirtual 56, 3) := by decide +kernel
theorem dL_isStep_583 : decode cL_isStep 583 = .ok (.aload_n 1, 1) := by decide +kernel
theorem dL_isStep_584 : decode cL_isStep 584 = .ok (.iload 7, 2) := by decide +kernel
theorem dL_isStep_586 : decode cL_isStep 586 = .ok (.invokevirtual 56, 3) := by decide +kernel
theorem dL_isStep_589 : decode cL_isStep 589 = .ok (.if_icmp .ne 7, 3) := by decide +kernel
theorem dL_isStep_592 : decode cL_isStep 592 = .ok (.iconst 1, 1) := by decide +kernel
theorem dL_isStep_593 : decode cL_isStep 593 = .ok (.goto 4, 3) := by decide +kernel
theorem dL_isStep_596 : decode cL_isStep 596 = .ok (.iconst 0, 1) := by decide +kernel
theorem dL_isStep_597 : decode cL_isStep 597 = .ok (.ireturn, 1) := by decide +kernel
theorem dL_areAlike_0 : decode cL_areAlike 0 = .ok (.aload_n 0, 1) := by decide +kernel
theorem dL_areAlike_1 : decode cL_areAlike 1 = .ok (.iconst 0, 1) := by decide +kernel
theorem dL_areAlike_2 : decode cL_areAlike 2 = .ok (.invokevirtual 9, 3) := by decide +kernel
theorem dL_areAlike_5 : decode cL_areAlike 5 = .ok (.istore_n 2, 1) := by decide +kernel
theorem dL_areAlike_6 : decode cL_areAlike 6 = .ok (.iload_n 2, 1) := by decide +kernel
theorem dL_areAlike_7 : decode cL_areAlike 7 = .ok (.aload_n 0, 1) := by decide +kernel
theorem dL_areAlike_8 : decode cL_areAlike 8 = .ok (.iconst 1, 1) := by decide +kernel
theorem dL_areAlike_9 : decode cL_areAlike 9 = .ok (.invokevirtual 9, 3) := by decide +kernel
theorem dL_areAlike_12 : decode cL_areAlike 12 = .ok (.imul, 1) := by decide +kernel
theorem dL_areAlike_13 : decode cL_areAlike 13 = .ok (.istore_n 3, 1) := by decide +kernel
theorem dL_areAlike_14 : decode cL_areAlike 14 = .ok (.aload_n 0, 1) := by decide +kernel
theorem dL_areAlike_15 : decode cL_areAlike 15 = .ok (.invokevirtual 59, 3) := by decide +kernel
theorem dL_areAlike_18 : decode cL_areAlike 18 = .ok (.aload_n 1, 1) := by decide +kernel
theorem dL_areAlike_19 : decode cL_areAlike 19 = .ok (.invokevirtual 59, 3) := by decide +kernel
theorem dL_areAlike_22 : decode cL_areAlike 22 = .ok (.if_icmp .ne 41, 3) := by decide +kernel
theorem dL_areAlike_25 : decode cL_areAlike 25 = .ok (.aload_n 0, 1) := by decide +kernel
theorem dL_areAlike_26 : decode cL_areAlike 26 = .ok (.invokevirtual 62, 3) := by decide +kernel
theorem dL_areAlike_29 : decode cL_areAlike 29 = .ok (.aload_n 1, 1) := by decide +kernel
theorem dL_areAlike_30 : decode cL_areAlike 30 = .ok (.invokevirtual 62, 3) := by decide +kernel
theorem dL_areAlike_33 : decode cL_areAlike 33 = .ok (.if_icmp .ne 30, 3) := by decide +kernel
theorem dL_areAlike_36 : decode cL_areAlike 36 = .ok (.aload_n 0, 1) := by decide +kernel
theorem dL_areAlike_37 : decode cL_areAlike 37 = .ok (.invokevirtual 65, 3) := by decide +kernel
theorem dL_areAlike_40 : decode cL_areAlike 40 = .ok (.aload_n 1, 1) := by decide +kernel
theorem dL_areAlike_41 : decode cL_areAlike 41 = .ok (.invokevirtual 65, 3) := by decide +kernel
theorem dL_areAlike_44 : decode cL_areAlike 44 = .ok (.if_icmp .ne 19, 3) := by decide +kernel
theorem dL_areAlike_47 : decode cL_areAlike 47 = .ok (.aload_n 0, 1) := by decide +kernel
theorem dL_areAlike_48 : decode cL_areAlike 48 = .ok (.invokevirtual 68, 3) := by decide +kernel
theorem dL_areAlike_51 : decode cL_areAlike 51 = .ok (.aload_n 1, 1) := by decide +kernel
theorem dL_areAlike_52 : decode cL_areAlike 52 = .ok (.invokevirtual 68, 3) := by decide +kernel
theorem dL_areAlike_55 : decode cL_areAlike 55 = .ok (.dcmp .l, 1) := by decide +kernel
theorem dL_areAlike_56 : decode cL_areAlike 56 = .ok (.ifCond .ne 7, 3) := by decide +kernel
theorem dL_areAlike_59 : decode cL_areAlike 59 = .ok (.iconst 1, 1) := by decide +kernel
theorem dL_areAlike_60 : decode cL_areAlike 60 = .ok (.goto 4, 3) := by decide +kernel
theorem dL_areAlike_63 : decode cL_areAlike 63 = .ok (.iconst 0, 1) := by decide +kernel
theorem dL_areAlike_64 : decode cL_areAlike 64 = .ok (.istore 4, 2) := by decide +kernel
theorem dL_areAlike_66 : decode cL_areAlike 66 = .ok (.iconst 0, 1) := by decide +kernel
theorem dL_areAlike_67 : decode cL_areAlike 67 = .ok (.istore 5, 2) := by decide +kernel
theorem dL_areAlike_69 : decode cL_areAlike 69 = .ok (.iload 5, 2) := by decide +kernel
theorem dL_areAlike_71 : decode cL_areAlike 71 = .ok (.bipush 14, 2) := by decide +kernel
theorem dL_areAlike_73 : decode cL_areAlike 73 = .ok (.if_icmp .ge 36, 3) := by decide +kernel
theorem dL_areAlike_76 : decode cL_areAlike 76 = .ok (.iload 4, 2) := by decide +kernel
theorem dL_areAlike_78 : decode cL_areAlike 78 = .ok (.ifCond .eq 22, 3) := by decide +kernel
theorem dL_areAlike_81 : decode cL_areAlike 81 = .ok (.aload_n 0, 1) := by decide +kernel
theorem dL_areAlike_82 : decode cL_areAlike 82 = .ok (.iload 5, 2) := by decide +kernel
theorem dL_areAlike_84 : decode cL_areAlike 84 = .ok (.invokevirtual 9, 3) := by decide +kernel
theorem dL_areAlike_87 : decode cL_areAlike 87 = .ok (.aload_n 1, 1) := by decide +kernel
theorem dL_areAlike_88 : decode cL_areAlike 88 = .ok (.iload 5, 2) := by decide +kernel
theorem dL_areAlike_90 : decode cL_areAlike 90 = .ok (.invokevirtual 9, 3) := by decide +kernel
theorem dL_areAlike_93 : decode cL_areAlike 93 = .ok (.if_icmp .ne 7, 3) := by decide +kernel
theorem dL_areAlike_96 : decode cL_areAlike 96 = .ok (.iconst 1, 1) := by decide +kernel
theorem dL_areAlike_97 : decode cL_areAlike 97 = .ok (.goto 4, 3) := by decide +kernel
theorem dL_areAlike_100 : decode cL_areAlike 100 = .ok (.iconst 0, 1) := by decide +kernel
theorem dL_areAlike_101 : decode cL_areAlike 101 = .ok (.istore 4, 2) := by decide +kernel
theorem dL_areAlike_103 : decode cL_areAlike 103 = .ok (.iinc 5 1, 3) := by decide +kernel
theorem dL_areAlike_106 : decode cL_areAlike 106 = .ok (.goto (-37), 3) := by decide +kernel
theorem dL_areAlike_109 : decode cL_areAlike 109 = .ok (.iconst 0, 1) := by decide +kernel
theorem dL_areAlike_110 : decode cL_areAlike 110 = .ok (.istore 5, 2) := by decide +kernel
theorem dL_areAlike_112 : decode cL_areAlike 112 = .ok (.iload 5, 2) := by decide +kernel
theorem dL_areAlike_114 : decode cL_areAlike 114 = .ok (.iload_n 3, 1) := by decide +kernel
theorem dL_areAlike_115 : decode cL_areAlike 115 = .ok (.if_icmp .ge 194, 3) := by decide +kernel
theorem dL_areAlike_118 : decode cL_areAlike 118 = .ok (.iload 4, 2) := by decide +kernel
theorem dL_areAlike_120 : decode cL_areAlike 120 = .ok (.ifCond .eq 189, 3) := by decide +kernel
theorem dL_areAlike_123 : decode cL_areAlike 123 = .ok (.iload 5, 2) := by decide +kernel
theorem dL_areAlike_125 : decode cL_areAlike 125 = .ok (.iload_n 2, 1) := by decide +kernel
theorem dL_areAlike_126 : decode cL_areAlike 126 = .ok (.invokestatic 21, 3) := by decide +kernel
theorem dL_areAlike_129 : decode cL_areAlike 129 = .ok (.istore 6, 2) := by decide +kernel
theorem dL_areAlike_131 : decode cL_areAlike 131 = .ok (.aload_n 0, 1) := by decide +kernel
theorem dL_areAlike_132 : decode cL_areAlike 132 = .ok (.iload 5, 2) := by decide +kernel
theorem dL_areAlike_134 : decode cL_areAlike 134 = .ok (.iconst 0, 1) := by decide +kernel
theorem dL_areAlike_135 : decode cL_areAlike 135 = .ok (.invokevirtual 34, 3) := by decide +kernel
theorem dL_areAlike_138 : decode cL_areAlike 138 = .ok (.aload_n 1, 1) := by decide +kernel
theorem dL_areAlike_139 : decode cL_areAlike 139 = .ok (.iload 6, 2) := by decide +kernel
theorem dL_areAlike_141 : decode cL_areAlike 141 = .ok (.iconst 0, 1) := by decide +kernel
theorem dL_areAlike_142 : decode cL_areAlike 142 = .ok (.invokevirtual 34, 3) := by decide +kernel
theorem dL_areAlike_145 : decode cL_areAlike 145 = .ok (.if_icmp .ne 109, 3) := by decide +kernel
theorem dL_areAlike_148 : decode cL_areAlike 148 = .ok (.aload_n 0, 1) := by decide +kernel
theorem dL_areAlike_149 : decode cL_areAlike 149 = .ok (.iload 5, 2) := by decide +kernel
theorem dL_areAlike_151 : decode cL_areAlike 151 = .ok (.iconst 1, 1) := by decide +kernel
theorem dL_areAlike_152 : decode cL_areAlike 152 = .ok (.invokevirtual 34, 3) := by decide +kernel
theorem dL_areAlike_155 : decode cL_areAlike 155 = .ok (.aload_n 1, 1) := by decide +kernel
theorem dL_areAlike_156 : decode cL_areAlike 156 = .ok (.iload 6, 2) := by decide +kernel
theorem dL_areAlike_158 : decode cL_areAlike 158 = .ok (.iconst 4, 1) := by decide +kernel
theorem dL_areAlike_159 : decode cL_areAlike 159 = .ok (.invokevirtual 34, 3) := by decide +kernel
theorem dL_areAlike_162 : decode cL_areAlike 162 = .ok (.if_icmp .ne 92, 3) := by decide +kernel
theorem dL_areAlike_165 : decode cL_areAlike 165 = .ok (.aload_n 0, 1) := by decide +kernel
theorem dL_areAlike_166 : decode cL_areAlike 166 = .ok (.iload 5, 2) := by decide +kernel
theorem dL_areAlike_168 : decode cL_areAlike 168 = .ok (.iconst 2, 1) := by decide +kernel
theorem dL_areAlike_169 : decode cL_areAlike 169 = .ok (.invokevirtual 34, 3) := by decide +kernel
theorem dL_areAlike_172 : decode cL_areAlike 172 = .ok (.aload_n 1, 1) := by decide +kernel
theorem dL_areAlike_173 : decode cL_areAlike 173 = .ok (.iload 6, 2) := by decide +kernel
theorem dL_areAlike_175 : decode cL_areAlike 175 = .ok (.iconst 2, 1) := by decide +kernel
theorem dL_areAlike_176 : decode cL_areAlike 176 = .ok (.invokevirtual 34, 3) := by decide +kernel
theorem dL_areAlike_179 : decode cL_areAlike 179 = .ok (.if_icmp .ne 75, 3) := by decide +kernel
theorem dL_areAlike_182 : decode cL_areAlike 182 = .ok (.aload_n 0, 1) := by decide +kernel
theorem dL_areAlike_183 : decode cL_areAlike 183 = .ok (.iload 5, 2) := by decide +kernel
theorem dL_areAlike_185 : decode cL_areAlike 185 = .ok (.iconst 3, 1) := by decide +kernel
theorem dL_areAlike_186 : decode cL_areAlike 186 = .ok (.invokevirtual 34, 3) := by decide +kernel
theorem dL_areAlike_189 : decode cL_areAlike 189 = .ok (.aload_n 1, 1) := by decide +kernel
theorem dL_areAlike_190 : decode cL_areAlike 190 = .ok (.iload 6, 2) := by decide +kernel
theorem dL_areAlike_192 : decode cL_areAlike 192 = .ok (.iconst 3, 1) := by decide +kernel
theorem dL_areAlike_193 : decode cL_areAlike 193 = .ok (.invokevirtual 34, 3) := by decide +kernel
theorem dL_areAlike_196 : decode cL_areAlike 196 = .ok (.if_icmp .ne 58, 3) := by decide +kernel
theorem dL_areAlike_199 : decode cL_areAlike 199 = .ok (.aload_n 0, 1) := by decide +kernel
theorem dL_areAlike_200 : decode cL_areAlike 200 = .ok (.iload 5, 2) := by decide +kernel
theorem dL_areAlike_202 : decode cL_areAlike 202 = .ok (.iconst 4, 1) := by decide +kernel
theorem dL_areAlike_203 : decode cL_areAlike 203 = .ok (.invokevirtual 34, 3) := by decide +kernel
theorem dL_areAlike_206 : decode cL_areAlike 206 = .ok (.aload_n 1, 1) := by decide +kernel
theorem dL_areAlike_207 : decode cL_areAlike 207 = .ok (.iload 6, 2) := by decide +kernel
theorem dL_areAlike_209 : decode cL_areAlike 209 = .ok (.iconst 1, 1) := by decide +kernel
theorem dL_areAlike_210 : decode cL_areAlike 210 = .ok (.invokevirtual 34, 3) := by decide +kernel
theorem dL_areAlike_213 : decode cL_areAlike 213 = .ok (.if_icmp .ne 41, 3) := by decide +kernel
theorem dL_areAlike_216 : decode cL_areAlike 216 = .ok (.aload_n 0, 1) := by decide +kernel
theorem dL_areAlike_217 : decode cL_areAlike 217 = .ok (.iload 5, 2) := by decide +kernel
theorem dL_areAlike_219 : decode cL_areAlike 219 = .ok (.bipush 6, 2) := by decide +kernel
theorem dL_areAlike_221 : decode cL_areAlike 221 = .ok (.invokevirtual 34, 3) := by decide +kernel
theorem dL_areAlike_224 : decode cL_areAlike 224 = .ok (.aload_n 1, 1) := by decide +kernel
theorem dL_areAlike_225 : decode cL_areAlike 225 = .ok (.iload 6, 2) := by decide +kernel
theorem dL_areAlike_227 : decode cL_areAlike 227 = .ok (.bipush 6, 2) := by decide +kernel
theorem dL_areAlike_229 : decode cL_areAlike 229 = .ok (.invokevirtual 34, 3) := by decide +kernel
theorem dL_areAlike_232 : decode cL_areAlike 232 = .ok (.if_icmp .ne 22, 3) := by decide +kernel
theorem dL_areAlike_235 : decode cL_areAlike 235 = .ok (.aload_n 0, 1) := by decide +kernel
theorem dL_areAlike_236 : decode cL_areAlike 236 = .ok (.iload 5, 2) := by decide +kernel
theorem dL_areAlike_238 : decode cL_areAlike 238 = .ok (.invokevirtual 72, 3) := by decide +kernel
theorem dL_areAlike_241 : decode cL_areAlike 241 = .ok (.aload_n 1, 1) := by decide +kernel
theorem dL_areAlike_242 : decode cL_areAlike 242 = .ok (.iload 6, 2) := by decide +kernel
theorem dL_areAlike_244 : decode cL_areAlike 244 = .ok (.invokevirtual 72, 3) := by decide +kernel
theorem dL_areAlike_247 : decode cL_areAlike 247 = .ok (.if_icmp .ne 7, 3) := by decide +kernel
theorem dL_areAlike_250 : decode cL_areAlike 250 = .ok (.iconst 1, 1) := by decide +kernel
theorem dL_areAlike_251 : decode cL_areAlike 251 = .ok (.goto 4, 3) := by decide +kernel
theorem dL_areAlike_254 : decode cL_areAlike 254 = .ok (.iconst 0, 1) := by decide +kernel
theorem dL_areAlike_255 : decode cL_areAlike 255 = .ok (.istore 4, 2) := by decide +kernel
theorem dL_areAlike_257 : decode cL_areAlike 257 = .ok (.iconst 1, 1) := by decide +kernel
theorem dL_areAlike_258 : decode cL_areAlike 258 = .ok (.istore 7, 2) := by decide +kernel
theorem dL_areAlike_260 : decode cL_areAlike 260 = .ok (.iload 7, 2) := by decide +kernel
theorem dL_areAlike_262 : decode cL_areAlike 262 = .ok (.iconst 5, 1) := by decide +kernel
theorem dL_areAlike_263 : decode cL_areAlike 263 = .ok (.if_icmp .ge 40, 3) := by decide +kernel
theorem dL_areAlike_266 : decode cL_areAlike 266 = .ok (.iload 4, 2) := by decide +kernel
theorem dL_areAlike_268 : decode cL_areAlike 268 = .ok (.ifCond .eq 26, 3) := by decide +kernel
theorem dL_areAlike_271 : decode cL_areAlike 271 = .ok (.aload_n 0, 1) := by decide +kernel
theorem dL_areAlike_272 : decode cL_areAlike 272 = .ok (.iload 5, 2) := by decide +kernel
theorem dL_areAlike_274 : decode cL_areAlike 274 = .ok (.iload 7, 2) := by decide +kernel
theorem dL_areAlike_276 : decode cL_areAlike 276 = .ok (.invokevirtual 53, 3) := by decide +kernel
theorem dL_areAlike_279 : decode cL_areAlike 279 = .ok (.aload_n 1, 1) := by decide +kernel
theorem dL_areAlike_280 : decode cL_areAlike 280 = .ok (.iload 6, 2) := by decide +kernel
theorem dL_areAlike_282 : decode cL_areAlike 282 = .ok (.iload 7, 2) := by decide +kernel
theorem dL_areAlike_284 : decode cL_areAlike 284 = .ok (.invokevirtual 53, 3) := by decide +kernel
theorem dL_areAlike_287 : decode cL_areAlike 287 = .ok (.if_icmp .ne 7, 3) := by decide +kernel
theorem dL_areAlike_290 : decode cL_areAlike 290 = .ok (.iconst 1, 1) := by decide +kernel
theorem dL_areAlike_291 : decode cL_areAlike 291 = .ok (.goto 4, 3) := by decide +kernel
theorem dL_areAlike_294 : decode cL_areAlike 294 = .ok (.iconst 0, 1) := by decide +kernel
theorem dL_areAlike_295 : decode cL_areAlike 295 = .ok (.istore 4, 2) := by decide +kernel
theorem dL_areAlike_297 : decode cL_areAlike 297 = .ok (.iinc 7 1, 3) := by decide +kernel
theorem dL_areAlike_300 : decode cL_areAlike 300 = .ok (.goto (-40), 3) := by decide +kernel
theorem dL_areAlike_303 : decode cL_areAlike 303 = .ok (.iinc 5 1, 3) := by decide +kernel
theorem dL_areAlike_306 : decode cL_areAlike 306 = .ok (.goto (-194), 3) := by decide +kernel
theorem dL_areAlike_309 : decode cL_areAlike 309 = .ok (.iload 4, 2) := by decide +kernel
theorem dL_areAlike_311 : decode cL_areAlike 311 = .ok (.ireturn, 1) := by decide +kernel
theorem dL_isSound_0 : decode cL_isSound 0 = .ok (.aload_n 0, 1) := by decide +kernel
theorem dL_isSound_1 : decode cL_isSound 1 = .ok (.iconst 0, 1) := by decide +kernel
theorem dL_isSound_2 : decode cL_isSound 2 = .ok (.invokevirtual 9, 3) := by decide +kernel
theorem dL_isSound_5 : decode cL_isSound 5 = .ok (.istore_n 1, 1) := by decide +kernel
theorem dL_isSound_6 : decode cL_isSound 6 = .ok (.iload_n 1, 1) := by decide +kernel
theorem dL_isSound_7 : decode cL_isSound 7 = .ok (.aload_n 0, 1) := by decide +kernel
theorem dL_isSound_8 : decode cL_isSound 8 = .ok (.iconst 1, 1) := by decide +kernel
theorem dL_isSound_9 : decode cL_isSound 9 = .ok (.invokevirtual 9, 3) := by decide +kernel
theorem dL_isSound_12 : decode cL_isSound 12 = .ok (.imul, 1) := by decide +kernel
theorem dL_isSound_13 : decode cL_isSound 13 = .ok (.istore_n 2, 1) := by decide +kernel
theorem dL_isSound_14 : decode cL_isSound 14 = .ok (.iconst 0, 1) := by decide +kernel
theorem dL_isSound_15 : decode cL_isSound 15 = .ok (.istore_n 3, 1) := by decide +kernel
theorem dL_isSound_16 : decode cL_isSound 16 = .ok (.iconst 0, 1) := by decide +kernel
theorem dL_isSound_17 : decode cL_isSound 17 = .ok (.istore 4, 2) := by decide +kernel
theorem dL_isSound_19 : decode cL_isSound 19 = .ok (.iconst 0, 1) := by decide +kernel
theorem dL_isSound_20 : decode cL_isSound 20 = .ok (.istore 5, 2) := by decide +kernel
theorem dL_isSound_22 : decode cL_isSound 22 = .ok (.aload_n 0, 1) := by decide +kernel
theorem dL_isSound_23 : decode cL_isSound 23 = .ok (.bipush 9, 2) := by decide +kernel
theorem dL_isSound_25 : decode cL_isSound 25 = .ok (.invokevirtual 9, 3) := by decide +kernel
theorem dL_isSound_28 : decode cL_isSound 28 = .ok (.aload_n 0, 1) := by decide +kernel
theorem dL_isSound_29 : decode cL_isSound 29 = .ok (.bipush 10, 2) := by decide +kernel
theorem dL_isSound_31 : decode cL_isSound 31 = .ok (.invokevirtual 9, 3) := by decide +kernel
theorem dL_isSound_34 : decode cL_isSound 34 = .ok (.aload_n 0, 1) := by decide +kernel
theorem dL_isSound_35 : decode cL_isSound 35 = .ok (.bipush 11, 2) := by decide +kernel
theorem dL_isSound_37 : decode cL_isSound 37 = .ok (.invokevirtual 9, 3) := by decide +kernel
theorem dL_isSound_40 : decode cL_isSound 40 = .ok (.iadd, 1) := by decide +kernel
theorem dL_isSound_41 : decode cL_isSound 41 = .ok (.aload_n 0, 1) := by decide +kernel
theorem dL_isSound_42 : decode cL_isSound 42 = .ok (.bipush 12, 2) := by decide +kernel
theorem dL_isSound_44 : decode cL_isSound 44 = .ok (.invokevirtual 9, 3) := by decide +kernel
theorem dL_isSound_47 : decode cL_isSound 47 = .ok (.iadd, 1) := by decide +kernel
theorem dL_isSound_48 : decode cL_isSound 48 = .ok (.if_icmp .ne 45, 3) := by decide +kernel
theorem dL_isSound_51 : decode cL_isSound 51 = .ok (.aload_n 0, 1) := by decide +kernel
theorem dL_isSound_52 : decode cL_isSound 52 = .ok (.invokevirtual 59, 3) := by decide +kernel
theorem dL_isSound_55 : decode cL_isSound 55 = .ok (.aload_n 0, 1) := by decide +kernel
theorem dL_isSound_56 : decode cL_isSound 56 = .ok (.iconst 4, 1) := by decide +kernel
theorem dL_isSound_57 : decode cL_isSound 57 = .ok (.invokevirtual 9, 3) := by decide +kernel
theorem dL_isSound_60 : decode cL_isSound 60 = .ok (.if_icmp .gt 33, 3) := by decide +kernel
theorem dL_isSound_63 : decode cL_isSound 63 = .ok (.aload_n 0, 1) := by decide +kernel
theorem dL_isSound_64 : decode cL_isSound 64 = .ok (.iconst 5, 1) := by decide +kernel
theorem dL_isSound_65 : decode cL_isSound 65 = .ok (.invokevirtual 9, 3) := by decide +kernel
theorem dL_isSound_68 : decode cL_isSound 68 = .ok (.aload_n 0, 1) := by decide +kernel
theorem dL_isSound_69 : decode cL_isSound 69 = .ok (.iconst 4, 1) := by decide +kernel
theorem dL_isSound_70 : decode cL_isSound 70 = .ok (.invokevirtual 9, 3) := by decide +kernel
theorem dL_isSound_73 : decode cL_isSound 73 = .ok (.if_icmp .gt 20, 3) := by decide +kernel
theorem dL_isSound_76 : decode cL_isSound 76 = .ok (.aload_n 0, 1) := by decide +kernel
theorem dL_isSound_77 : decode cL_isSound 77 = .ok (.iconst 4, 1) := by decide +kernel
theorem dL_isSound_78 : decode cL_isSound 78 = .ok (.invokevirtual 9, 3) := by decide +kernel
theorem dL_isSound_81 : decode cL_isSound 81 = .ok (.aload_n 0, 1) := by decide +kernel
theorem dL_isSound_82 : decode cL_isSound 82 = .ok (.iconst 3, 1) := by decide +kernel
theorem dL_isSound_83 : decode cL_isSound 83 = .ok (.invokevirtual 9, 3) := by decide +kernel
theorem dL_isSound_86 : decode cL_isSound 86 = .ok (.if_icmp .gt 7, 3) := by decide +kernel
theorem dL_isSound_89 : decode cL_isSound 89 = .ok (.iconst 1, 1) := by decide +kernel
theorem dL_isSound_90 : decode cL_isSound 90 = .ok (.goto 4, 3) := by decide +kernel
theorem dL_isSound_93 : decode cL_isSound 93 = .ok (.iconst 0, 1) := by decide +kernel
theorem dL_isSound_94 : decode cL_isSound 94 = .ok (.istore 6, 2) := by decide +kernel
theorem dL_isSound_96 : decode cL_isSound 96 = .ok (.iconst 0, 1) := by decide +kernel
theorem dL_isSound_97 : decode cL_isSound 97 = .ok (.istore 7, 2) := by decide +kernel
theorem dL_isSound_99 : decode cL_isSound 99 = .ok (.iload 7, 2) := by decide +kernel
theorem dL_isSound_101 : decode cL_isSound 101 = .ok (.iload_n 2, 1) := by decide +kernel
theorem dL_isSound_102 : decode cL_isSound 102 = .ok (.if_icmp .ge 184, 3) := by decide +kernel
theorem dL_isSound_105 : decode cL_isSound 105 = .ok (.aload_n 0, 1) := by decide +kernel
theorem dL_isSound_106 : decode cL_isSound 106 = .ok (.iload 7, 2) := by decide +kernel
theorem dL_isSound_108 : decode cL_isSound 108 = .ok (.iconst 5, 1) := by decide +kernel
theorem dL_isSound_109 : decode cL_isSound 109 = .ok (.invokevirtual 34, 3) := by decide +kernel
theorem dL_isSound_112 : decode cL_isSound 112 = .ok (.iload 7, 2) := by decide +kernel
theorem dL_isSound_114 : decode cL_isSound 114 = .ok (.if_icmp .ne 7, 3) := by decide +kernel
theorem dL_isSound_117 : decode cL_isSound 117 = .ok (.iconst 1, 1) := by decide +kernel
theorem dL_isSound_118 : decode cL_isSound 118 = .ok (.goto 4, 3) := by decide +kernel
theorem dL_isSound_121 : decode cL_isSound 121 = .ok (.iconst 0, 1) := by decide +kernel
theorem dL_isSound_122 : decode cL_isSound 122 = .ok (.istore 8, 2) := by decide +kernel
theorem dL_isSound_124 : decode cL_isSound 124 = .ok (.iload_n 3, 1) := by decide +kernel
theorem dL_isSound_125 : decode cL_isSound 125 = .ok (.aload_n 0, 1) := by decide +kernel
theorem dL_isSound_126 : decode cL_isSound 126 = .ok (.iload 7, 2) := by decide +kernel
theorem dL_isSound_128 : decode cL_isSound 128 = .ok (.iconst 0, 1) := by decide +kernel
theorem dL_isSound_129 : decode cL_isSound 129 = .ok (.invokevirtual 34, 3) := by decide +kernel
theorem dL_isSound_132 : decode cL_isSound 132 = .ok (.ifCond .le 7, 3) := by decide +kernel
theorem dL_isSound_135 : decode cL_isSound 135 = .ok (.iconst 1, 1) := by decide +kernel
theorem dL_isSound_136 : decode cL_isSound 136 = .ok (.goto 4, 3) := by decide +kernel
theorem dL_isSound_139 : decode cL_isSound 139 = .ok (.iconst 0, 1) := by decide +kernel
theorem dL_isSound_140 : decode cL_isSound 140 = .ok (.iadd, 1) := by decide +kernel
theorem dL_isSound_141 : decode cL_isSound 141 = .ok (.istore_n 3, 1) := by decide +kernel
theorem dL_isSound_142 : decode cL_isSound 142 = .ok (.iload 4, 2) := by decide +kernel
theorem dL_isSound_144 : decode cL_isSound 144 = .ok (.iload 8, 2) := by decide +kernel
theorem dL_isSound_146 : decode cL_isSound 146 = .ok (.ifCond .eq 7, 3) := by decide +kernel
theorem dL_isSound_149 : decode cL_isSound 149 = .ok (.iconst 1, 1) := by decide +kernel
theorem dL_isSound_150 : decode cL_isSound 150 = .ok (.goto 4, 3) := by decide +kernel
theorem dL_isSound_153 : decode cL_isSound 153 = .ok (.iconst 0, 1) := by decide +kernel
theorem dL_isSound_154 : decode cL_isSound 154 = .ok (.iadd, 1) := by decide +kernel
theorem dL_isSound_155 : decode cL_isSound 155 = .ok (.istore 4, 2) := by decide +kernel
theorem dL_isSound_157 : decode cL_isSound 157 = .ok (.iload 5, 2) := by decide +kernel
theorem dL_isSound_159 : decode cL_isSound 159 = .ok (.iload 8, 2) := by decide +kernel
theorem dL_isSound_161 : decode cL_isSound 161 = .ok (.ifCond .eq 13, 3) := by decide +kernel
theorem dL_isSound_164 : decode cL_isSound 164 = .ok (.aload_n 0, 1) := by decide +kernel
theorem dL_isSound_165 : decode cL_isSound 165 = .ok (.iload 7, 2) := by decide +kernel
theorem dL_isSound_167 : decode cL_isSound 167 = .ok (.iconst 2, 1) := by decide +kernel
theorem dL_isSound_168 : decode cL_isSound 168 = .ok (.invokevirtual 53, 3) := by decide +kernel
theorem dL_isSound_171 : decode cL_isSound 171 = .ok (.goto 4, 3) := by decide +kernel
theorem dL_isSound_174 : decode cL_isSound 174 = .ok (.iconst 0, 1) := by decide +kernel
theorem dL_isSound_175 : decode cL_isSound 175 = .ok (.iadd, 1) := by decide +kernel
theorem dL_isSound_176 : decode cL_isSound 176 = .ok (.istore 5, 2) := by decide +kernel
theorem dL_isSound_178 : decode cL_isSound 178 = .ok (.iload 6, 2) := by decide +kernel
theorem dL_isSound_180 : decode cL_isSound 180 = .ok (.ifCond .eq 97, 3) := by decide +kernel
theorem dL_isSound_183 : decode cL_isSound 183 = .ok (.aload_n 0, 1) := by decide +kernel
theorem dL_isSound_184 : decode cL_isSound 184 = .ok (.iload 7, 2) := by decide +kernel
theorem dL_isSound_186 : decode cL_isSound 186 = .ok (.iconst 0, 1) := by decide +kernel
theorem dL_isSound_187 : decode cL_isSound 187 = .ok (.invokevirtual 34, 3) := by decide +kernel
theorem dL_isSound_190 : decode cL_isSound 190 = .ok (.ifCond .le 7, 3) := by decide +kernel
theorem dL_isSound_193 : decode cL_isSound 193 = .ok (.iconst 1, 1) := by decide +kernel
theorem dL_isSound_194 : decode cL_isSound 194 = .ok (.goto 4, 3) := by decide +kernel
theorem dL_isSound_197 : decode cL_isSound 197 = .ok (.iconst 0, 1) := by decide +kernel
theorem dL_isSound_198 : decode cL_isSound 198 = .ok (.aload_n 0, 1) := by decide +kernel
theorem dL_isSound_199 : decode cL_isSound 199 = .ok (.iload 7, 2) := by decide +kernel
theorem dL_isSound_201 : decode cL_isSound 201 = .ok (.iconst 5, 1) := by decide +kernel
theorem dL_isSound_202 : decode cL_isSound 202 = .ok (.invokevirtual 34, 3) := by decide +kernel
theorem dL_isSound_205 : decode cL_isSound 205 = .ok (.ifCond .lt 7, 3) := by decide +kernel
theorem dL_isSound_208 : decode cL_isSound 208 = .ok (.iconst 1, 1) := by decide +kernel
theorem dL_isSound_209 : decode cL_isSound 209 = .ok (.goto 4, 3) := by decide +kernel
theorem dL_isSound_212 : decode cL_isSound 212 = .ok (.iconst 0, 1) := by decide +kernel
theorem dL_isSound_213 : decode cL_isSound 213 = .ok (.if_icmp .ne 64, 3) := by decide +kernel
theorem dL_isSound_216 : decode cL_isSound 216 = .ok (.aload_n 0, 1) := by decide +kernel
theorem dL_isSound_217 : decode cL_isSound 217 = .ok (.iload 7, 2) := by decide +kernel
theorem dL_isSound_219 : decode cL_isSound 219 = .ok (.iconst 5, 1) := by decide +kernel
theorem dL_isSound_220 : decode cL_isSound 220 = .ok (.invokevirtual 34, 3) := by decide +kernel
theorem dL_isSound_223 : decode cL_isSound 223 = .ok (.iload 7, 2) := by decide +kernel
theorem dL_isSound_225 : decode cL_isSound 225 = .ok (.if_icmp .gt 52, 3) := by decide +kernel
theorem dL_isSound_228 : decode cL_isSound 228 = .ok (.aload_n 0, 1) := by decide +kernel
theorem dL_isSound_229 : decode cL_isSound 229 = .ok (.iload 7, 2) := by decide +kernel
theorem dL_isSound_231 : decode cL_isSound 231 = .ok (.iconst 4, 1) := by decide +kernel
theorem dL_isSound_232 : decode cL_isSound 232 = .ok (.invokevirtual 53, 3) := by decide +kernel
theorem dL_isSound_235 : decode cL_isSound 235 = .ok (.ifCond .lt 38, 3) := by decide +kernel
theorem dL_isSound_238 : decode cL_isSound 238 = .ok (.aload_n 0, 1) := by decide +kernel
theorem dL_isSound_239 : decode cL_isSound 239 = .ok (.iload 7, 2) := by decide +kernel
theorem dL_isSound_241 : decode cL_isSound 241 = .ok (.iconst 3, 1) := by decide +kernel
theorem dL_isSound_242 : decode cL_isSound 242 = .ok (.invokevirtual 53, 3) := by decide +kernel
theorem dL_isSound_245 : decode cL_isSound 245 = .ok (.ifCond .ne 32, 3) := by decide +kernel
theorem dL_isSound_248 : decode cL_isSound 248 = .ok (.aload_n 0, 1) := by decide +kernel
theorem dL_isSound_249 : decode cL_isSound 249 = .ok (.iload 7, 2) := by decide +kernel
theorem dL_isSound_251 : decode cL_isSound 251 = .ok (.iconst 4, 1) := by decide +kernel
theorem dL_isSound_252 : decode cL_isSound 252 = .ok (.invokevirtual 53, 3) := by decide +kernel
theorem dL_isSound_255 : decode cL_isSound 255 = .ok (.aload_n 0, 1) := by decide +kernel
theorem dL_isSound_256 : decode cL_isSound 256 = .ok (.iconst 1, 1) := by decide +kernel
theorem dL_isSound_257 : decode cL_isSound 257 = .ok (.invokevirtual 9, 3) := by decide +kernel
theorem dL_isSound_260 : decode cL_isSound 260 = .ok (.aload_n 0, 1) := by decide +kernel
theorem dL_isSound_261 : decode cL_isSound 261 = .ok (.iload 7, 2) := by decide +kernel
theorem dL_isSound_263 : decode cL_isSound 263 = .ok (.iconst 5, 1) := by decide +kernel
theorem dL_isSound_264 : decode cL_isSound 264 = .ok (.invokevirtual 34, 3) := by decide +kernel
theorem dL_isSound_267 : decode cL_isSound 267 = .ok (.iload_n 1, 1) := by decide +kernel
theorem dL_isSound_268 : decode cL_isSound 268 = .ok (.idiv, 1) := by decide +kernel
theorem dL_isSound_269 : decode cL_isSound 269 = .ok (.isub, 1) := by decide +kernel
theorem dL_isSound_270 : decode cL_isSound 270 = .ok (.if_icmp .lt 7, 3) := by decide +kernel
theorem dL_isSound_273 : decode cL_isSound 273 = .ok (.iconst 1, 1) := by decide +kernel
theorem dL_isSound_274 : decode cL_isSound 274 = .ok (.goto 4, 3) := by decide +kernel
theorem dL_isSound_277 : decode cL_isSound 277 = .ok (.iconst 0, 1) := by decide +kernel
theorem dL_isSound_278 : decode cL_isSound 278 = .ok (.istore 6, 2) := by decide +kernel
theorem dL_isSound_280 : decode cL_isSound 280 = .ok (.iinc 7 1, 3) := by decide +kernel
theorem dL_isSound_283 : decode cL_isSound 283 = .ok (.goto (-184), 3) := by decide +kernel
theorem dL_isSound_286 : decode cL_isSound 286 = .ok (.iload 6, 2) := by decide +kernel
theorem dL_isSound_288 : decode cL_isSound 288 = .ok (.ifCond .eq 37, 3) := by decide +kernel
theorem dL_isSound_291 : decode cL_isSound 291 = .ok (.iload_n 3, 1) := by decide +kernel
theorem dL_isSound_292 : decode cL_isSound 292 = .ok (.aload_n 0, 1) := by decide +kernel
theorem dL_isSound_293 : decode cL_isSound 293 = .ok (.iconst 2, 1) := by decide +kernel
theorem dL_isSound_294 : decode cL_isSound 294 = .ok (.invokevirtual 9, 3) := by decide +kernel
theorem dL_isSound_297 : decode cL_isSound 297 = .ok (.if_icmp .ne 28, 3) := by decide +kernel
theorem dL_isSound_300 : decode cL_isSound 300 = .ok (.iload 4, 2) := by decide +kernel
theorem dL_isSound_302 : decode cL_isSound 302 = .ok (.aload_n 0, 1) := by decide +kernel
theorem dL_isSound_303 : decode cL_isSound 303 = .ok (.iconst 3, 1) := by decide +kernel
theorem dL_isSound_304 : decode cL_isSound 304 = .ok (.invokevirtual 9, 3) := by decide +kernel
theorem dL_isSound_307 : decode cL_isSound 307 = .ok (.if_icmp .ne 18, 3) := by decide +kernel
theorem dL_isSound_310 : decode cL_isSound 310 = .ok (.iload 5, 2) := by decide +kernel
theorem dL_isSound_312 : decode cL_isSound 312 = .ok (.aload_n 0, 1) := by decide +kernel
theorem dL_isSound_313 : decode cL_isSound 313 = .ok (.bipush 10, 2) := by decide +kernel
theorem dL_isSound_315 : decode cL_isSound 315 = .ok (.invokevirtual 9, 3) := by decide +kernel
theorem dL_isSound_318 : decode cL_isSound 318 = .ok (.if_icmp .ne 7, 3) := by decide +kernel
theorem dL_isSound_321 : decode cL_isSound 321 = .ok (.iconst 1, 1) := by decide +kernel
theorem dL_isSound_322 : decode cL_isSound 322 = .ok (.goto 4, 3) := by decide +kernel
theorem dL_isSound_325 : decode cL_isSound 325 = .ok (.iconst 0, 1) := by decide +kernel
theorem dL_isSound_326 : decode cL_isSound 326 = .ok (.ireturn, 1) := by decide +kernel
theorem dL_law_0 : decode cL_law 0 = .ok (.new 10, 3) := by decide +kernel
theorem dL_law_3 : decode cL_law 3 = .ok (.dup, 1) := by decide +kernel
theorem dL_law_4 : decode cL_law 4 = .ok (.invokespecial 75, 3) := by decide +kernel
theorem dL_law_7 : decode cL_law 7 = .ok (.astore_n 1, 1) := by decide +kernel
theorem dL_law_8 : decode cL_law 8 = .ok (.new 10, 3) := by decide +kernel
theorem dL_law_11 : decode cL_law 11 = .ok (.dup, 1) := by decide +kernel
theorem dL_law_12 : decode cL_law 12 = .ok (.invokespecial 75, 3) := by decide +kernel
theorem dL_law_15 : decode cL_law 15 = .ok (.astore_n 2, 1) := by decide +kernel
theorem dL_law_16 : decode cL_law 16 = .ok (.iconst 1, 1) := by decide +kernel
theorem dL_law_17 : decode cL_law 17 = .ok (.istore_n 3, 1) := by decide +kernel
theorem dL_law_18 : decode cL_law 18 = .ok (.iconst 0, 1) := by decide +kernel
theorem dL_law_19 : decode cL_law 19 = .ok (.istore 4, 2) := by decide +kernel
theorem dL_law_21 : decode cL_law 21 = .ok (.iload 4, 2) := by decide +kernel
theorem dL_law_23 : decode cL_law 23 = .ok (.bipush 34, 2) := by decide +kernel
theorem dL_law_25 : decode cL_law 25 = .ok (.if_icmp .ge 48, 3) := by decide +kernel
theorem dL_law_28 : decode cL_law 28 = .ok (.iload_n 3, 1) := by decide +kernel
theorem dL_law_29 : decode cL_law 29 = .ok (.ifCond .eq 44, 3) := by decide +kernel
theorem dL_law_32 : decode cL_law 32 = .ok (.aload_n 1, 1) := by decide +kernel
theorem dL_law_33 : decode cL_law 33 = .ok (.aload_n 2, 1) := by decide +kernel
theorem dL_law_34 : decode cL_law 34 = .ok (.aload_n 0, 1) := by decide +kernel
theorem dL_law_35 : decode cL_law 35 = .ok (.iload 4, 2) := by decide +kernel
theorem dL_law_37 : decode cL_law 37 = .ok (.invokestatic 76, 3) := by decide +kernel
theorem dL_law_40 : decode cL_law 40 = .ok (.invokestatic 79, 3) := by decide +kernel
theorem dL_law_43 : decode cL_law 43 = .ok (.ifCond .eq 22, 3) := by decide +kernel
theorem dL_law_46 : decode cL_law 46 = .ok (.aload_n 1, 1) := by decide +kernel
theorem dL_law_47 : decode cL_law 47 = .ok (.aload_n 2, 1) := by decide +kernel
theorem dL_law_48 : decode cL_law 48 = .ok (.invokestatic 83, 3) := by decide +kernel
theorem dL_law_51 : decode cL_law 51 = .ok (.ifCond .eq 14, 3) := by decide +kernel
theorem dL_law_54 : decode cL_law 54 = .ok (.aload_n 1, 1) := by decide +kernel
theorem dL_law_55 : decode cL_law 55 = .ok (.invokestatic 87, 3) := by decide +kernel
theorem dL_law_58 : decode cL_law 58 = .ok (.ifCond .eq 7, 3) := by decide +kernel
theorem dL_law_61 : decode cL_law 61 = .ok (.iconst 1, 1) := by decide +kernel
theorem dL_law_62 : decode cL_law 62 = .ok (.goto 4, 3) := by decide +kernel
theorem dL_law_65 : decode cL_law 65 = .ok (.iconst 0, 1) := by decide +kernel
theorem dL_law_66 : decode cL_law 66 = .ok (.istore_n 3, 1) := by decide +kernel
theorem dL_law_67 : decode cL_law 67 = .ok (.iinc 4 1, 3) := by decide +kernel
theorem dL_law_70 : decode cL_law 70 = .ok (.goto (-49), 3) := by decide +kernel
theorem dL_law_73 : decode cL_law 73 = .ok (.aload_n 1, 1) := by decide +kernel
theorem dL_law_74 : decode cL_law 74 = .ok (.bipush 10, 2) := by decide +kernel
theorem dL_law_76 : decode cL_law 76 = .ok (.invokevirtual 9, 3) := by decide +kernel
theorem dL_law_79 : decode cL_law 79 = .ok (.istore 4, 2) := by decide +kernel
theorem dL_law_81 : decode cL_law 81 = .ok (.aload_n 1, 1) := by decide +kernel
theorem dL_law_82 : decode cL_law 82 = .ok (.bipush 11, 2) := by decide +kernel
theorem dL_law_84 : decode cL_law 84 = .ok (.invokevirtual 9, 3) := by decide +kernel
theorem dL_law_87 : decode cL_law 87 = .ok (.istore 5, 2) := by decide +kernel
theorem dL_law_89 : decode cL_law 89 = .ok (.aload_n 1, 1) := by decide +kernel
theorem dL_law_90 : decode cL_law 90 = .ok (.invokevirtual 59, 3) := by decide +kernel
theorem dL_law_93 : decode cL_law 93 = .ok (.istore 6, 2) := by decide +kernel
theorem dL_law_95 : decode cL_law 95 = .ok (.iload_n 3, 1) := by decide +kernel
theorem dL_law_96 : decode cL_law 96 = .ok (.ifCond .eq 67, 3) := by decide +kernel
theorem dL_law_99 : decode cL_law 99 = .ok (.aload_n 1, 1) := by decide +kernel
theorem dL_law_100 : decode cL_law 100 = .ok (.invokevirtual 46, 3) := by decide +kernel
theorem dL_law_103 : decode cL_law 103 = .ok (.iload 6, 2) := by decide +kernel
theorem dL_law_105 : decode cL_law 105 = .ok (.if_icmp .ne 58, 3) := by decide +kernel
theorem dL_law_108 : decode cL_law 108 = .ok (.aload_n 1, 1) := by decide +kernel
theorem dL_law_109 : decode cL_law 109 = .ok (.iconst 4, 1) := by decide +kernel
theorem dL_law_110 : decode cL_law 110 = .ok (.invokevirtual 9, 3) := by decide +kernel
theorem dL_law_113 : decode cL_law 113 = .ok (.aload_n 1, 1) := by decide +kernel
theorem dL_law_114 : decode cL_law 114 = .ok (.iconst 5, 1) := by decide +kernel
theorem dL_law_115 : decode cL_law 115 = .ok (.invokevirtual 9, 3) := by decide +kernel
theorem dL_law_118 : decode cL_law 118 = .ok (.if_icmp .ne 45, 3) := by decide +kernel
theorem dL_law_121 : decode cL_law 121 = .ok (.aload_n 1, 1) := by decide +kernel
theorem dL_law_122 : decode cL_law 122 = .ok (.invokevirtual 91, 3) := by decide +kernel
theorem dL_law_125 : decode cL_law 125 = .ok (.ifCond .lt 38, 3) := by decide +kernel
theorem dL_law_128 : decode cL_law 128 = .ok (.aload_n 1, 1) := by decide +kernel
theorem dL_law_129 : decode cL_law 129 = .ok (.bipush 10, 2) := by decide +kernel
theorem dL_law_131 : decode cL_law 131 = .ok (.invokevirtual 9, 3) := by decide +kernel
theorem dL_law_134 : decode cL_law 134 = .ok (.iload 4, 2) := by decide +kernel
theorem dL_law_136 : decode cL_law 136 = .ok (.if_icmp .ne 27, 3) := by decide +kernel
theorem dL_law_139 : decode cL_law 139 = .ok (.aload_n 1, 1) := by decide +kernel
theorem dL_law_140 : decode cL_law 140 = .ok (.bipush 11, 2) := by decide +kernel
theorem dL_law_142 : decode cL_law 142 = .ok (.invokevirtual 9, 3) := by decide +kernel
theorem dL_law_145 : decode cL_law 145 = .ok (.iload 5, 2) := by decide +kernel
theorem dL_law_147 : decode cL_law 147 = .ok (.if_icmp .ne 16, 3) := by decide +kernel
theorem dL_law_150 : decode cL_law 150 = .ok (.aload_n 1, 1) := by decide +kernel
theorem dL_law_151 : decode cL_law 151 = .ok (.invokevirtual 59, 3) := by decide +kernel
theorem dL_law_154 : decode cL_law 154 = .ok (.iload 6, 2) := by decide +kernel
theorem dL_law_156 : decode cL_law 156 = .ok (.if_icmp .ne 7, 3) := by decide +kernel
theorem dL_law_159 : decode cL_law 159 = .ok (.iconst 1, 1) := by decide +kernel
theorem dL_law_160 : decode cL_law 160 = .ok (.goto 4, 3) := by decide +kernel
theorem dL_law_163 : decode cL_law 163 = .ok (.iconst 0, 1) := by decide +kernel
theorem dL_law_164 : decode cL_law 164 = .ok (.ireturn, 1) := by decide +kernel
